def qX4_in_B18 (a0 : Int64) (a2 : Int64) (a4 : Int64) (post : Int32 → Mem → Prop) (s0 : Int32) (σ : Mem) : Prop := (isB s0 ∧ post s0 σ)
set_option maxRecDepth 20000 in
theorem kX4_in_B18 {X : Cx} {G : Gw} (hG : fw_IsM G) (O : fw_Ok X G cX4_in 6 RX4 0 0 (some .boolean)) {a0 : Int64} {a2 : Int64} {a4 : Int64} {post : Int32 → Mem → Prop}   {s0 : Int32} {σ : Mem} (h : qX4_in_B18 a0 a2 a4 post s0 σ) : fw_At X G 6 (fw_QI X G post) 18 [(0, .long a0), (2, .long a2), (4, .long a4)] [.int s0] σ := by
  unfold qX4_in_B18 at h
  exact fr_zret (pc := 18) O dX4_in_18 h.1 h.2
def qX4_in_B17 (a0 : Int64) (a2 : Int64) (a4 : Int64) (post : Int32 → Mem → Prop) (σ : Mem) : Prop := qX4_in_B18 a0 a2 a4 post (0 : Int32) σ
set_option maxRecDepth 20000 in
theorem kX4_in_B17 {X : Cx} {G : Gw} (hG : fw_IsM G) (O : fw_Ok X G cX4_in 6 RX4 0 0 (some .boolean)) {a0 : Int64} {a2 : Int64} {a4 : Int64} {post : Int32 → Mem → Prop}    {σ : Mem} (h : qX4_in_B17 a0 a2 a4 post σ) : fw_At X G 6 (fw_QI X G post) 17 [(0, .long a0), (2, .long a2), (4, .long a4)] [] σ := by
  unfold qX4_in_B17 at h
  refine fr_iconst (pc := 17) O (v := (0 : Int32)) dX4_in_17 (by decide) ?_
  exact kX4_in_B18 hG O  h
def qX4_in (a0 : Int64) (a2 : Int64) (a4 : Int64) (σ : Mem) (post : Int32 → Mem → Prop) : Prop := (((lg_cmp a0 a2) < 0 → qX4_in_B17 a0 a2 a4 post σ) ∧ (¬ (lg_cmp a0 a2) < 0 → ((0 < (lg_cmp a0 a4) → qX4_in_B17 a0 a2 a4 post σ) ∧ (¬ 0 < (lg_cmp a0 a4) → qX4_in_B18 a0 a2 a4 post (1 : Int32) σ))))
set_option maxRecDepth 20000 in
theorem kX4_in {X : Cx} {G : Gw} (hG : fw_IsM G) (O : fw_Ok X G cX4_in 6 RX4 0 0 (some .boolean)) {a0 : Int64} {a2 : Int64} {a4 : Int64}  {σ : Mem} {post : Int32 → Mem → Prop} (h : qX4_in a0 a2 a4 σ post) : fw_At X G 6 (fw_QI X G post) 0 [(0, .long a0), (2, .long a2), (4, .long a4)] [] σ := by
  unfold qX4_in at h
  refine fr_lload_n (pc := 0) O 0 dX4_in_0 rfl rfl ?_
  refine fr_lload_n (pc := 1) O 1 dX4_in_1 rfl rfl ?_
  refine fr_lcmp (pc := 2) O dX4_in_2 ?_
  refine fr_if_lt (pc := 3) (tgt := 17) O dX4_in_3 (by decide) (fun c_3 => ?_) (fun c_3 => ?_)
  · have h := h.1 c_3
    exact kX4_in_B17 hG O  h
  · have h := h.2 c_3
    refine fr_lload_n (pc := 6) O 0 dX4_in_6 rfl rfl ?_
    refine fr_lload (pc := 7) O 2 dX4_in_7 rfl ?_
    refine fr_lcmp (pc := 9) O dX4_in_9 ?_
    refine fr_if_gt (pc := 10) (tgt := 17) O dX4_in_10 (by decide) (fun c_10 => ?_) (fun c_10 => ?_)
    · have h := h.1 c_10
      exact kX4_in_B17 hG O  h
    · have h := h.2 c_10
      refine fr_iconst (pc := 13) O (v := (1 : Int32)) dX4_in_13 (by decide) ?_
      refine fr_goto (pc := 14) (tgt := 18) O dX4_in_14 (by decide) ?_
      exact kX4_in_B18 hG O  h
theorem tX4_in (l : Launch) {G : Gw} (hG : fw_IsM G) {a0 : Int64} {a2 : Int64} {a4 : Int64}  {σ : Mem} {post : Int32 → Mem → Prop} (h : qX4_in a0 a2 a4 σ post) : fw_CI l G yX4_in cX4_in 6 .boolean 0 0 [.long a0, .long a2, .long a4] σ post := fw_ofI (sok_M hG) (by decide) (Nat.le_of_ble_eq_true rfl) (fun X O => kX4_in hG O  h)
def qX4_feed (a1 : Int32) (σ : Mem) (post : Int32 → Mem → Prop) : Prop := (qX4_in a1.toInt64 (0 : Int64) (127 : Int64) σ (fun r6 σ6 => ((¬ r6 = 0 → ((¬ (σ6 0 4) = (160 : Int32) → (vp_in (σ6 0 4) 160 ∧ (∀ σ36 : Mem, σ36 = up2 σ6 3 (σ6 0 4).toNatClampNeg a1 → (∀ σ44 : Mem, σ44 = up2 σ36 0 4 ((σ36 0 4) + (1 : Int32)) → post (σ44 0 4) σ44)))) ∧ ((σ6 0 4) = (160 : Int32) → post (-3 : Int32) σ6))) ∧ (r6 = 0 → post (-1 : Int32) σ6))))
set_option maxRecDepth 20000 in
theorem kX4_feed {X : Cx} {G : Gw} (hG : fw_IsM G) (O : fw_Ok X G cX4_feed 2 RX4 1 25 (some .int)) {a1 : Int32}  {σ : Mem} {post : Int32 → Mem → Prop} (h : qX4_feed a1 σ post) : fw_At X G 2 (fw_QI X G post) 0 [(0, .ref (gad G 0)), (1, .int a1)] [] σ := by
  unfold qX4_feed at h
  refine fr_iload_n (pc := 0) O 1 dX4_feed_0 rfl rfl ?_
  refine fr_i2l (pc := 1) O dX4_feed_1 ?_
  refine fr_lconst (pc := 2) O (v := (0 : Int64)) dX4_feed_2 (by decide) ?_
  refine fr_ldc2 (pc := 3) O m_796 dX4_feed_3 ?_
  refine fr_callSI (pc := 6) (st := []) O (tX4_in X.2.1 hG  h) mt_X4_in m_798 m_797 rfl (by decide) rfl (Nat.le_of_ble_eq_true rfl) dX4_feed_6 (fun r6 σ6 h => ?_)
  refine fr_if_ne (pc := 9) (tgt := 14) O dX4_feed_9 (by decide) (fun c_9 => ?_) (fun c_9 => ?_)
  · have h := h.1 c_9
    refine fr_aload_n (pc := 14) O 0 dX4_feed_14 rfl rfl ?_
    refine fr_get (pc := 15) (k := 4) (v := .int (σ6 0 4)) O cl_X4 m_717 (sM_0 hG) (by decide) rfl rfl dX4_feed_15 ?_
    refine fr_sipush (pc := 18) O (v := (160 : Int32)) dX4_feed_18 (by decide) ?_
    refine fr_icmp_ne (pc := 21) (tgt := 27) O dX4_feed_21 (by decide) (fun c_21 => ?_) (fun c_21 => ?_)
    · have h := h.1 c_21
      refine fr_aload_n (pc := 27) O 0 dX4_feed_27 rfl rfl ?_
      refine fr_get (pc := 28) (k := 3) (v := .ref (gad G 3)) O cl_X4 m_716 (sM_0 hG) (by decide) rfl rfl dX4_feed_28 ?_
      refine fr_aload_n (pc := 31) O 0 dX4_feed_31 rfl rfl ?_
      refine fr_get (pc := 32) (k := 4) (v := .int (σ6 0 4)) O cl_X4 m_717 (sM_0 hG) (by decide) rfl rfl dX4_feed_32 ?_
      refine fr_iload_n (pc := 35) O 1 dX4_feed_35 rfl rfl ?_
      have hi_36 := h.1
      have h := h.2
      refine fr_iast (pc := 36) O (sM_3 hG) hi_36 dX4_feed_36 (fun σ36 e_σ36 => ?_)
      have h := h σ36 e_σ36
      refine fr_aload_n (pc := 37) O 0 dX4_feed_37 rfl rfl ?_
      refine fr_dup (pc := 38) O dX4_feed_38 rfl ?_
      refine fr_get (pc := 39) (k := 4) (v := .int (σ36 0 4)) O cl_X4 m_717 (sM_0 hG) (by decide) rfl rfl dX4_feed_39 ?_
      refine fr_iconst (pc := 42) O (v := (1 : Int32)) dX4_feed_42 (by decide) ?_
      refine fr_iadd (pc := 43) O dX4_feed_43 ?_
      refine fr_put (pc := 44) (k := 4) O cl_X4 m_717 (sM_0 hG) (by decide) rfl rfl rfl rfl (fun _ => Nat.le_of_ble_eq_true rfl) (fun _ => rfl) dX4_feed_44 (fun σ44 e_σ44 => ?_)
      have h := h σ44 e_σ44
      refine fr_aload_n (pc := 47) O 0 dX4_feed_47 rfl rfl ?_
      refine fr_get (pc := 48) (k := 4) (v := .int (σ44 0 4)) O cl_X4 m_717 (sM_0 hG) (by decide) rfl rfl dX4_feed_48 ?_
      exact fr_iret (pc := 51) O dX4_feed_51 h
    · have h := h.2 c_21
      refine fr_bipush (pc := 24) O (v := (-3 : Int32)) dX4_feed_24 (by decide) ?_
      exact fr_iret (pc := 26) O dX4_feed_26 h
  · have h := h.2 c_9
    refine fr_iconst (pc := 12) O (v := (-1 : Int32)) dX4_feed_12 (by decide) ?_
    exact fr_iret (pc := 13) O dX4_feed_13 h
theorem tX4_feed (l : Launch) {G : Gw} (hG : fw_IsM G) {a1 : Int32}  {σ : Mem} {post : Int32 → Mem → Prop} (h : qX4_feed a1 σ post) : fw_CI l G yX4_feed cX4_feed 2 .int 1 25 [.ref (gad G 0), .int a1] σ post := fw_ofI (sok_M hG) (by decide) (Nat.le_of_ble_eq_true rfl) (fun X O => kX4_feed hG O  h)
def qX4_end (a1 : Int32) (σ : Mem) (post : Int32 → Mem → Prop) : Prop := (qX4_in a1.toInt64 (0 : Int64) ((σ 0 4).toInt64) σ (fun r8 σ8 => ((¬ r8 = 0 → (∀ y2_20 : Int32, y2_20 = σ8 0 4 → (∀ σ23 : Mem, σ23 = up2 σ8 0 4 a1 → post y2_20 σ23))) ∧ (r8 = 0 → post (-1 : Int32) σ8))))
set_option maxRecDepth 20000 in
theorem kX4_end {X : Cx} {G : Gw} (hG : fw_IsM G) (O : fw_Ok X G cX4_end 3 RX4 1 25 (some .int)) {a1 : Int32}  {σ : Mem} {post : Int32 → Mem → Prop} (h : qX4_end a1 σ post) : fw_At X G 3 (fw_QI X G post) 0 [(0, .ref (gad G 0)), (1, .int a1)] [] σ := by
  unfold qX4_end at h
  refine fr_iload_n (pc := 0) O 1 dX4_end_0 rfl rfl ?_
  refine fr_i2l (pc := 1) O dX4_end_1 ?_
  refine fr_lconst (pc := 2) O (v := (0 : Int64)) dX4_end_2 (by decide) ?_
  refine fr_aload_n (pc := 3) O 0 dX4_end_3 rfl rfl ?_
  refine fr_get (pc := 4) (k := 4) (v := .int (σ 0 4)) O cl_X4 m_717 (sM_0 hG) (by decide) rfl rfl dX4_end_4 ?_
  refine fr_i2l (pc := 7) O dX4_end_7 ?_
  refine fr_callSI (pc := 8) (st := []) O (tX4_in X.2.1 hG  h) mt_X4_in m_798 m_797 rfl (by decide) rfl (Nat.le_of_ble_eq_true rfl) dX4_end_8 (fun r8 σ8 h => ?_)
  refine fr_if_ne (pc := 11) (tgt := 16) O dX4_end_11 (by decide) (fun c_11 => ?_) (fun c_11 => ?_)
  · have h := h.1 c_11
    refine fr_aload_n (pc := 16) O 0 dX4_end_16 rfl rfl ?_
    refine fr_get (pc := 17) (k := 4) (v := .int (σ8 0 4)) O cl_X4 m_717 (sM_0 hG) (by decide) rfl rfl dX4_end_17 ?_
    refine fr_nm (fun y2_20 e_y2_20 => ?_)
    have h := h y2_20 e_y2_20
    refine fr_istore_n (pc := 20) O [1, 2, 0] (lv' := [(0, .ref (gad G 0)), (1, .int a1), (2, .int y2_20)]) dX4_end_20 rfl (by decide) rfl ?_
    refine fr_aload_n (pc := 21) O 0 dX4_end_21 rfl rfl ?_
    refine fr_iload_n (pc := 22) O 1 dX4_end_22 rfl rfl ?_
    refine fr_put (pc := 23) (k := 4) O cl_X4 m_717 (sM_0 hG) (by decide) rfl rfl rfl rfl (fun _ => Nat.le_of_ble_eq_true rfl) (fun _ => rfl) dX4_end_23 (fun σ23 e_σ23 => ?_)
    have h := h σ23 e_σ23
    refine fr_iload_n (pc := 26) O 2 dX4_end_26 rfl rfl ?_
    exact fr_iret (pc := 27) O dX4_end_27 h
  · have h := h.2 c_11
    refine fr_iconst (pc := 14) O (v := (-1 : Int32)) dX4_end_14 (by decide) ?_
    exact fr_iret (pc := 15) O dX4_end_15 h
theorem tX4_end (l : Launch) {G : Gw} (hG : fw_IsM G) {a1 : Int32}  {σ : Mem} {post : Int32 → Mem → Prop} (h : qX4_end a1 σ post) : fw_CI l G yX4_end cX4_end 3 .int 1 25 [.ref (gad G 0), .int a1] σ post := fw_ofI (sok_M hG) (by decide) (Nat.le_of_ble_eq_true rfl) (fun X O => kX4_end hG O  h)
def qX4_byteAt_B19 (a1 : Int32) (post : Int32 → Mem → Prop) (s0 : Int32) (σ : Mem) : Prop := post s0 σ
set_option maxRecDepth 20000 in
theorem kX4_byteAt_B19 {X : Cx} {G : Gw} (hG : fw_IsM G) (O : fw_Ok X G cX4_byteAt 2 RX4 0 0 (some .int)) {a1 : Int32} {post : Int32 → Mem → Prop}   {s0 : Int32} {σ : Mem} (h : qX4_byteAt_B19 a1 post s0 σ) : fw_At X G 2 (fw_QI X G post) 19 [(0, .ref (gad G 0)), (1, .int a1)] [.int s0] σ := by
  unfold qX4_byteAt_B19 at h
  exact fr_iret (pc := 19) O dX4_byteAt_19 h
def qX4_byteAt (a1 : Int32) (σ : Mem) (post : Int32 → Mem → Prop) : Prop := (((σ 0 4) ≤ a1 → qX4_byteAt_B19 a1 post (-4 : Int32) σ) ∧ (¬ (σ 0 4) ≤ a1 → (vp_in a1 160 ∧ qX4_byteAt_B19 a1 post (σ 3 a1.toNatClampNeg) σ)))
set_option maxRecDepth 20000 in
theorem kX4_byteAt {X : Cx} {G : Gw} (hG : fw_IsM G) (O : fw_Ok X G cX4_byteAt 2 RX4 0 0 (some .int)) {a1 : Int32}  {σ : Mem} {post : Int32 → Mem → Prop} (h : qX4_byteAt a1 σ post) : fw_At X G 2 (fw_QI X G post) 0 [(0, .ref (gad G 0)), (1, .int a1)] [] σ := by
  unfold qX4_byteAt at h
  refine fr_iload_n (pc := 0) O 1 dX4_byteAt_0 rfl rfl ?_
  refine fr_aload_n (pc := 1) O 0 dX4_byteAt_1 rfl rfl ?_
  refine fr_get (pc := 2) (k := 4) (v := .int (σ 0 4)) O cl_X4 m_717 (sM_0 hG) (by decide) rfl rfl dX4_byteAt_2 ?_
  refine fr_icmp_ge (pc := 5) (tgt := 17) O dX4_byteAt_5 (by decide) (fun c_5 => ?_) (fun c_5 => ?_)
  · have h := h.1 c_5
    refine fr_bipush (pc := 17) O (v := (-4 : Int32)) dX4_byteAt_17 (by decide) ?_
    exact kX4_byteAt_B19 hG O  h
  · have h := h.2 c_5
    refine fr_aload_n (pc := 8) O 0 dX4_byteAt_8 rfl rfl ?_
    refine fr_get (pc := 9) (k := 3) (v := .ref (gad G 3)) O cl_X4 m_716 (sM_0 hG) (by decide) rfl rfl dX4_byteAt_9 ?_
    refine fr_iload_n (pc := 12) O 1 dX4_byteAt_12 rfl rfl ?_
    have hi_13 := h.1
    have h := h.2
    refine fr_iald (pc := 13) O (sM_3 hG) hi_13 dX4_byteAt_13 ?_
    refine fr_goto (pc := 14) (tgt := 19) O dX4_byteAt_14 (by decide) ?_
    exact kX4_byteAt_B19 hG O  h
theorem tX4_byteAt (l : Launch) {G : Gw} (hG : fw_IsM G) {a1 : Int32}  {σ : Mem} {post : Int32 → Mem → Prop} (h : qX4_byteAt a1 σ post) : fw_CI l G yX4_byteAt cX4_byteAt 2 .int 0 0 [.ref (gad G 0), .int a1] σ post := fw_ofI (sok_M hG) (by decide) (Nat.le_of_ble_eq_true rfl) (fun X O => kX4_byteAt hG O  h)
def qX4_fails_B20 (a1 : Int32) (post : Mem → Prop) (σ : Mem) : Prop := post σ
set_option maxRecDepth 20000 in
theorem kX4_fails_B20 {X : Cx} {G : Gw} (hG : fw_IsM G) (O : fw_Ok X G cX4_fails 2 RX4 0 0 none) {a1 : Int32} {post : Mem → Prop}    {σ : Mem} (h : qX4_fails_B20 a1 post σ) : fw_At X G 2 (fw_QV X G post) 20 [(0, .ref (gad G 0)), (1, .int a1)] [] σ := by
  unfold qX4_fails_B20 at h
  exact fr_vret (pc := 20) O dX4_fails_20 h
def qX4_fails (a1 : Int32) (σ : Mem) (post : Mem → Prop) : Prop := ((¬ (σ 0 6) = 0 → qX4_fails_B20 a1 post σ) ∧ ((σ 0 6) = 0 → (∀ σ9 : Mem, σ9 = up2 σ 0 6 a1 → (∀ σ17 : Mem, σ17 = up2 σ9 0 7 (σ9 0 9) → qX4_fails_B20 a1 post σ17))))
set_option maxRecDepth 20000 in
theorem kX4_fails {X : Cx} {G : Gw} (hG : fw_IsM G) (O : fw_Ok X G cX4_fails 2 RX4 0 0 none) {a1 : Int32}  {σ : Mem} {post : Mem → Prop} (h : qX4_fails a1 σ post) : fw_At X G 2 (fw_QV X G post) 0 [(0, .ref (gad G 0)), (1, .int a1)] [] σ := by
  unfold qX4_fails at h
  refine fr_aload_n (pc := 0) O 0 dX4_fails_0 rfl rfl ?_
  refine fr_get (pc := 1) (k := 6) (v := .int (σ 0 6)) O cl_X4 m_719 (sM_0 hG) (by decide) rfl rfl dX4_fails_1 ?_
  refine fr_if_ne (pc := 4) (tgt := 20) O dX4_fails_4 (by decide) (fun c_4 => ?_) (fun c_4 => ?_)
  · have h := h.1 c_4
    exact kX4_fails_B20 hG O  h
  · have h := h.2 c_4
    refine fr_aload_n (pc := 7) O 0 dX4_fails_7 rfl rfl ?_
    refine fr_iload_n (pc := 8) O 1 dX4_fails_8 rfl rfl ?_
    refine fr_put (pc := 9) (k := 6) O cl_X4 m_719 (sM_0 hG) (by decide) rfl rfl rfl rfl (fun _ => Nat.le_of_ble_eq_true rfl) (fun _ => rfl) dX4_fails_9 (fun σ9 e_σ9 => ?_)
    have h := h σ9 e_σ9
    refine fr_aload_n (pc := 12) O 0 dX4_fails_12 rfl rfl ?_
    refine fr_aload_n (pc := 13) O 0 dX4_fails_13 rfl rfl ?_
    refine fr_get (pc := 14) (k := 9) (v := .int (σ9 0 9)) O cl_X4 m_722 (sM_0 hG) (by decide) rfl rfl dX4_fails_14 ?_
    refine fr_put (pc := 17) (k := 7) O cl_X4 m_720 (sM_0 hG) (by decide) rfl rfl rfl rfl (fun _ => Nat.le_of_ble_eq_true rfl) (fun _ => rfl) dX4_fails_17 (fun σ17 e_σ17 => ?_)
    have h := h σ17 e_σ17
    exact kX4_fails_B20 hG O  h
theorem tX4_fails (l : Launch) {G : Gw} (hG : fw_IsM G) {a1 : Int32}  {σ : Mem} {post : Mem → Prop} (h : qX4_fails a1 σ post) : fw_CV l G yX4_fails cX4_fails 2 0 0 [.ref (gad G 0), .int a1] σ post := fw_ofV (sok_M hG) (by decide) (Nat.le_of_ble_eq_true rfl) (fun X O => kX4_fails hG O  h)
def qX4_nameHere_B118 (post : Int32 → Mem → Prop) (σ : Mem) : Prop := post (-4 : Int32) σ
set_option maxRecDepth 20000 in
theorem kX4_nameHere_B118 {X : Cx} {G : Gw} (hG : fw_IsM G) (O : fw_Ok X G cX4_nameHere 4 RX4 1 21 (some .int))  {post : Int32 → Mem → Prop}    {σ : Mem} (h : qX4_nameHere_B118 post σ) : fw_At X G 4 (fw_QI X G post) 118 [(0, .ref (gad G 0))] [] σ := by
  unfold qX4_nameHere_B118 at h
  refine fr_bipush (pc := 118) O (v := (-4 : Int32)) dX4_nameHere_118 (by decide) ?_
  exact fr_iret (pc := 120) O dX4_nameHere_120 h
def qX4_nameHere_B106 (post : Int32 → Mem → Prop) (k2 : Int32 → Mem → Prop) (x1 : Int32) (x2 : Int32) (σ : Mem) : Prop := ((x2 = 0 → (∀ y1_112 : Int32, y1_112 = x1 + (1 : Int32) → k2 y1_112 σ)) ∧ (¬ x2 = 0 → post x1 σ))
set_option maxRecDepth 20000 in
theorem kX4_nameHere_B106 {X : Cx} {G : Gw} (hG : fw_IsM G) (O : fw_Ok X G cX4_nameHere 4 RX4 1 21 (some .int))  {post : Int32 → Mem → Prop} {k2 : Int32 → Mem → Prop}  (hk2 : ∀ (x1 : Int32) (σ : Mem), k2 x1 σ → fw_At X G 4 (fw_QI X G post) 2 [(0, .ref (gad G 0)), (1, .int x1)] [] σ) {x1 : Int32} {x2 : Int32} {σ : Mem} (h : qX4_nameHere_B106 post k2 x1 x2 σ) : fw_At X G 4 (fw_QI X G post) 106 [(0, .ref (gad G 0)), (1, .int x1), (2, .int x2)] [] σ := by
  unfold qX4_nameHere_B106 at h
  refine fr_iload_n (pc := 106) O 2 dX4_nameHere_106 rfl rfl ?_
  refine fr_if_eq (pc := 107) (tgt := 112) O dX4_nameHere_107 (by decide) (fun c_107 => ?_) (fun c_107 => ?_)
  · have h := h.1 c_107
    refine fr_iinc (pc := 112) O 1 [1, 0, 2] (w := (1 : Int32)) (lvF := fun y1_112 => [(0, .ref (gad G 0)), (1, .int y1_112), (2, .int x2)]) dX4_nameHere_112 rfl (by decide) (by decide) (fun _ => rfl) (fun y1_112 e_y1_112 => ?_)
    have h := h y1_112 e_y1_112
    refine fr_goto (pc := 115) (tgt := 2) O dX4_nameHere_115 (by decide) ?_
    refine fw_sub (lv' := [(0, .ref (gad G 0)), (1, .int y1_112)]) [0, 1] rfl ?_
    exact hk2 _ _ h
  · have h := h.2 c_107
    refine fr_iload_n (pc := 110) O 1 dX4_nameHere_110 rfl rfl ?_
    exact fr_iret (pc := 111) O dX4_nameHere_111 h
def qX4_nameHere_B99 (post : Int32 → Mem → Prop) (k2 : Int32 → Mem → Prop) (k51 : Int32 → Int32 → Int32 → Mem → Prop) (x1 : Int32) (x3 : Int32) (s0 : Int32) (σ : Mem) : Prop := (∀ y3_100 : Int32, y3_100 = x3 + (1 : Int32) → k51 x1 s0 y3_100 σ)
set_option maxRecDepth 20000 in
theorem kX4_nameHere_B99 {X : Cx} {G : Gw} (hG : fw_IsM G) (O : fw_Ok X G cX4_nameHere 4 RX4 1 21 (some .int))  {post : Int32 → Mem → Prop} {k2 : Int32 → Mem → Prop} {k51 : Int32 → Int32 → Int32 → Mem → Prop}  (hk2 : ∀ (x1 : Int32) (σ : Mem), k2 x1 σ → fw_At X G 4 (fw_QI X G post) 2 [(0, .ref (gad G 0)), (1, .int x1)] [] σ) (hk51 : ∀ (x1 : Int32) (x2 : Int32) (x3 : Int32) (σ : Mem), k51 x1 x2 x3 σ → fw_At X G 4 (fw_QI X G post) 51 [(0, .ref (gad G 0)), (1, .int x1), (2, .int x2), (3, .int x3)] [] σ) {x1 : Int32} {x3 : Int32} {s0 : Int32} {σ : Mem} (h : qX4_nameHere_B99 post k2 k51 x1 x3 s0 σ) : fw_At X G 4 (fw_QI X G post) 99 [(0, .ref (gad G 0)), (1, .int x1), (3, .int x3)] [.int s0] σ := by
  unfold qX4_nameHere_B99 at h
  refine fr_istore_n (pc := 99) O [1, 2, 0, 3] (lv' := [(0, .ref (gad G 0)), (1, .int x1), (2, .int s0), (3, .int x3)]) dX4_nameHere_99 rfl (by decide) rfl ?_
  refine fr_iinc (pc := 100) O 3 [1, 2, 3, 0] (w := (1 : Int32)) (lvF := fun y3_100 => [(0, .ref (gad G 0)), (1, .int x1), (2, .int s0), (3, .int y3_100)]) dX4_nameHere_100 rfl (by decide) (by decide) (fun _ => rfl) (fun y3_100 e_y3_100 => ?_)
  have h := h y3_100 e_y3_100
  refine fr_goto (pc := 103) (tgt := 51) O dX4_nameHere_103 (by decide) ?_
  exact hk51 _ _ _ _ h
def qX4_nameHere_L51 (post : Int32 → Mem → Prop) (k2 : Int32 → Mem → Prop) (k51 : Int32 → Int32 → Int32 → Mem → Prop) (x1 : Int32) (x2 : Int32) (x3 : Int32) (σ : Mem) : Prop := ((x2 = 0 → qX4_nameHere_B106 post k2 x1 x2 σ) ∧ (¬ x2 = 0 → ((((σ 0 8) - (σ 0 9)) ≤ x3 → qX4_nameHere_B106 post k2 x1 x2 σ) ∧ (¬ ((σ 0 8) - (σ 0 9)) ≤ x3 → (qX4_byteAt ((σ 0 9) + x3) σ (fun r75 σ75 => (vp_in x1 9 ∧ (vp_in ((σ75 4 x1.toNatClampNeg) + x3) 35 ∧ ((¬ r75 = (σ75 5 ((σ75 4 x1.toNatClampNeg) + x3).toNatClampNeg) → qX4_nameHere_B99 post k2 k51 x1 x3 (0 : Int32) σ75) ∧ (r75 = (σ75 5 ((σ75 4 x1.toNatClampNeg) + x3).toNatClampNeg) → qX4_nameHere_B99 post k2 k51 x1 x3 (1 : Int32) σ75))))))))))
set_option maxRecDepth 20000 in
theorem kX4_nameHere_L51 {X : Cx} {G : Gw} (hG : fw_IsM G) (O : fw_Ok X G cX4_nameHere 4 RX4 1 21 (some .int))  {post : Int32 → Mem → Prop} {k2 : Int32 → Mem → Prop} {k51 : Int32 → Int32 → Int32 → Mem → Prop}  (hk2 : ∀ (x1 : Int32) (σ : Mem), k2 x1 σ → fw_At X G 4 (fw_QI X G post) 2 [(0, .ref (gad G 0)), (1, .int x1)] [] σ) (hk51 : ∀ (x1 : Int32) (x2 : Int32) (x3 : Int32) (σ : Mem), k51 x1 x2 x3 σ → fw_At X G 4 (fw_QI X G post) 51 [(0, .ref (gad G 0)), (1, .int x1), (2, .int x2), (3, .int x3)] [] σ) {x1 : Int32} {x2 : Int32} {x3 : Int32} {σ : Mem} (h : qX4_nameHere_L51 post k2 k51 x1 x2 x3 σ) : fw_At X G 4 (fw_QI X G post) 51 [(0, .ref (gad G 0)), (1, .int x1), (2, .int x2), (3, .int x3)] [] σ := by
  unfold qX4_nameHere_L51 at h
  refine fr_iload_n (pc := 51) O 2 dX4_nameHere_51 rfl rfl ?_
  refine fr_if_eq (pc := 52) (tgt := 106) O dX4_nameHere_52 (by decide) (fun c_52 => ?_) (fun c_52 => ?_)
  · have h := h.1 c_52
    refine fw_sub (lv' := [(0, .ref (gad G 0)), (1, .int x1), (2, .int x2)]) [0, 1, 2] rfl ?_
    exact kX4_nameHere_B106 hG O hk2 h
  · have h := h.2 c_52
    refine fr_iload_n (pc := 55) O 3 dX4_nameHere_55 rfl rfl ?_
    refine fr_aload_n (pc := 56) O 0 dX4_nameHere_56 rfl rfl ?_
    refine fr_get (pc := 57) (k := 8) (v := .int (σ 0 8)) O cl_X4 m_721 (sM_0 hG) (by decide) rfl rfl dX4_nameHere_57 ?_
    refine fr_aload_n (pc := 60) O 0 dX4_nameHere_60 rfl rfl ?_
    refine fr_get (pc := 61) (k := 9) (v := .int (σ 0 9)) O cl_X4 m_722 (sM_0 hG) (by decide) rfl rfl dX4_nameHere_61 ?_
    refine fr_isub (pc := 64) O dX4_nameHere_64 ?_
    refine fr_icmp_ge (pc := 65) (tgt := 106) O dX4_nameHere_65 (by decide) (fun c_65 => ?_) (fun c_65 => ?_)
    · have h := h.1 c_65
      refine fw_sub (lv' := [(0, .ref (gad G 0)), (1, .int x1), (2, .int x2)]) [0, 1, 2] rfl ?_
      exact kX4_nameHere_B106 hG O hk2 h
    · have h := h.2 c_65
      refine fr_aload_n (pc := 68) O 0 dX4_nameHere_68 rfl rfl ?_
      refine fr_aload_n (pc := 69) O 0 dX4_nameHere_69 rfl rfl ?_
      refine fr_get (pc := 70) (k := 9) (v := .int (σ 0 9)) O cl_X4 m_722 (sM_0 hG) (by decide) rfl rfl dX4_nameHere_70 ?_
      refine fr_iload_n (pc := 73) O 3 dX4_nameHere_73 rfl rfl ?_
      refine fr_iadd (pc := 74) O dX4_nameHere_74 ?_
      refine fr_callVI (pc := 75) (st := []) O (tX4_byteAt X.2.1 hG  h) mt_X4_byteAt mv_X4_byteAt m_812 cl_X4 rfl (sM_0 hG) rfl (by decide) rfl (Nat.le_of_ble_eq_true rfl) dX4_nameHere_75 (fun r75 σ75 h => ?_)
      refine fr_aload_n (pc := 78) O 0 dX4_nameHere_78 rfl rfl ?_
      refine fr_get (pc := 79) (k := 13) (v := .ref (gad G 5)) O cl_X4 m_726 (sM_0 hG) (by decide) rfl rfl dX4_nameHere_79 ?_
      refine fr_aload_n (pc := 82) O 0 dX4_nameHere_82 rfl rfl ?_
      refine fr_get (pc := 83) (k := 12) (v := .ref (gad G 4)) O cl_X4 m_725 (sM_0 hG) (by decide) rfl rfl dX4_nameHere_83 ?_
      refine fr_iload_n (pc := 86) O 1 dX4_nameHere_86 rfl rfl ?_
      have hi_87 := h.1
      have h := h.2
      refine fr_iald (pc := 87) O (sM_4 hG) hi_87 dX4_nameHere_87 ?_
      refine fr_iload_n (pc := 88) O 3 dX4_nameHere_88 rfl rfl ?_
      refine fr_iadd (pc := 89) O dX4_nameHere_89 ?_
      have hi_90 := h.1
      have h := h.2
      refine fr_iald (pc := 90) O (sM_5 hG) hi_90 dX4_nameHere_90 ?_
      refine fr_icmp_ne (pc := 91) (tgt := 98) O dX4_nameHere_91 (by decide) (fun c_91 => ?_) (fun c_91 => ?_)
      · have h := h.1 c_91
        refine fr_iconst (pc := 98) O (v := (0 : Int32)) dX4_nameHere_98 (by decide) ?_
        refine fw_sub (lv' := [(0, .ref (gad G 0)), (1, .int x1), (3, .int x3)]) [0, 1, 3] rfl ?_
        exact kX4_nameHere_B99 hG O hk2 hk51 h
      · have h := h.2 c_91
        refine fr_iconst (pc := 94) O (v := (1 : Int32)) dX4_nameHere_94 (by decide) ?_
        refine fr_goto (pc := 95) (tgt := 99) O dX4_nameHere_95 (by decide) ?_
        refine fw_sub (lv' := [(0, .ref (gad G 0)), (1, .int x1), (3, .int x3)]) [0, 1, 3] rfl ?_
        exact kX4_nameHere_B99 hG O hk2 hk51 h
set_option maxRecDepth 20000 in
theorem kX4_nameHere_L51w {X : Cx} {G : Gw} (hG : fw_IsM G) (O : fw_Ok X G cX4_nameHere 4 RX4 1 21 (some .int))  {post : Int32 → Mem → Prop} {k2 : Int32 → Mem → Prop}  (hk2 : ∀ (x1 : Int32) (σ : Mem), k2 x1 σ → fw_At X G 4 (fw_QI X G post) 2 [(0, .ref (gad G 0)), (1, .int x1)] [] σ) {n9 : Nat} {x1 : Int32} {x2 : Int32} {x3 : Int32} {σ : Mem} (h : it3 (qX4_nameHere_L51 post k2) n9 x1 x2 x3 σ) : fw_At X G 4 (fw_QI X G post) 51 [(0, .ref (gad G 0)), (1, .int x1), (2, .int x2), (3, .int x3)] [] σ :=
  it3_walk (T := fun x1 x2 x3 σ => fw_At X G 4 (fw_QI X G post) 51 [(0, .ref (gad G 0)), (1, .int x1), (2, .int x2), (3, .int x3)] [] σ) (fun k51 hk51 x1 x2 x3 σ h => kX4_nameHere_L51 hG O hk2 hk51 h) n9 x1 x2 x3 σ h
def qX4_nameHere_B48 (post : Int32 → Mem → Prop) (k2 : Int32 → Mem → Prop) (x1 : Int32) (s0 : Int32) (σ : Mem) : Prop := ∃ n9, it3 (qX4_nameHere_L51 post k2) n9 x1 s0 (0 : Int32) σ
set_option maxRecDepth 20000 in
theorem kX4_nameHere_B48 {X : Cx} {G : Gw} (hG : fw_IsM G) (O : fw_Ok X G cX4_nameHere 4 RX4 1 21 (some .int))  {post : Int32 → Mem → Prop} {k2 : Int32 → Mem → Prop}  (hk2 : ∀ (x1 : Int32) (σ : Mem), k2 x1 σ → fw_At X G 4 (fw_QI X G post) 2 [(0, .ref (gad G 0)), (1, .int x1)] [] σ) {x1 : Int32} {s0 : Int32} {σ : Mem} (h : qX4_nameHere_B48 post k2 x1 s0 σ) : fw_At X G 4 (fw_QI X G post) 48 [(0, .ref (gad G 0)), (1, .int x1)] [.int s0] σ := by
  unfold qX4_nameHere_B48 at h
  refine fr_istore_n (pc := 48) O [1, 2, 0] (lv' := [(0, .ref (gad G 0)), (1, .int x1), (2, .int s0)]) dX4_nameHere_48 rfl (by decide) rfl ?_
  refine fr_iconst (pc := 49) O (v := (0 : Int32)) dX4_nameHere_49 (by decide) ?_
  refine fr_istore_n (pc := 50) O [1, 2, 3, 0] (lv' := [(0, .ref (gad G 0)), (1, .int x1), (2, .int s0), (3, .int (0 : Int32))]) dX4_nameHere_50 rfl (by decide) rfl ?_
  obtain ⟨n9, h⟩ := h
  exact kX4_nameHere_L51w hG O hk2 h
def qX4_nameHere_L2 (post : Int32 → Mem → Prop) (k2 : Int32 → Mem → Prop) (x1 : Int32) (σ : Mem) : Prop := (((8 : Int32) ≤ x1 → qX4_nameHere_B118 post σ) ∧ (¬ (8 : Int32) ≤ x1 → ((¬ (σ 0 10) = (1 : Int32) → qX4_nameHere_B118 post σ) ∧ ((σ 0 10) = (1 : Int32) → (vp_in (x1 + (1 : Int32)) 9 ∧ (vp_in x1 9 ∧ ((¬ ((σ 0 8) - (σ 0 9)) = ((σ 4 (x1 + (1 : Int32)).toNatClampNeg) - (σ 4 x1.toNatClampNeg)) → qX4_nameHere_B48 post k2 x1 (0 : Int32) σ) ∧ (((σ 0 8) - (σ 0 9)) = ((σ 4 (x1 + (1 : Int32)).toNatClampNeg) - (σ 4 x1.toNatClampNeg)) → qX4_nameHere_B48 post k2 x1 (1 : Int32) σ))))))))
set_option maxRecDepth 20000 in
theorem kX4_nameHere_L2 {X : Cx} {G : Gw} (hG : fw_IsM G) (O : fw_Ok X G cX4_nameHere 4 RX4 1 21 (some .int))  {post : Int32 → Mem → Prop} {k2 : Int32 → Mem → Prop}  (hk2 : ∀ (x1 : Int32) (σ : Mem), k2 x1 σ → fw_At X G 4 (fw_QI X G post) 2 [(0, .ref (gad G 0)), (1, .int x1)] [] σ) {x1 : Int32} {σ : Mem} (h : qX4_nameHere_L2 post k2 x1 σ) : fw_At X G 4 (fw_QI X G post) 2 [(0, .ref (gad G 0)), (1, .int x1)] [] σ := by
  unfold qX4_nameHere_L2 at h
  refine fr_iload_n (pc := 2) O 1 dX4_nameHere_2 rfl rfl ?_
  refine fr_bipush (pc := 3) O (v := (8 : Int32)) dX4_nameHere_3 (by decide) ?_
  refine fr_icmp_ge (pc := 5) (tgt := 118) O dX4_nameHere_5 (by decide) (fun c_5 => ?_) (fun c_5 => ?_)
  · have h := h.1 c_5
    refine fw_sub (lv' := [(0, .ref (gad G 0))]) [0] rfl ?_
    exact kX4_nameHere_B118 hG O  h
  · have h := h.2 c_5
    refine fr_aload_n (pc := 8) O 0 dX4_nameHere_8 rfl rfl ?_
    refine fr_get (pc := 9) (k := 10) (v := .int (σ 0 10)) O cl_X4 m_723 (sM_0 hG) (by decide) rfl rfl dX4_nameHere_9 ?_
    refine fr_iconst (pc := 12) O (v := (1 : Int32)) dX4_nameHere_12 (by decide) ?_
    refine fr_icmp_ne (pc := 13) (tgt := 118) O dX4_nameHere_13 (by decide) (fun c_13 => ?_) (fun c_13 => ?_)
    · have h := h.1 c_13
      refine fw_sub (lv' := [(0, .ref (gad G 0))]) [0] rfl ?_
      exact kX4_nameHere_B118 hG O  h
    · have h := h.2 c_13
      refine fr_aload_n (pc := 16) O 0 dX4_nameHere_16 rfl rfl ?_
      refine fr_get (pc := 17) (k := 8) (v := .int (σ 0 8)) O cl_X4 m_721 (sM_0 hG) (by decide) rfl rfl dX4_nameHere_17 ?_
      refine fr_aload_n (pc := 20) O 0 dX4_nameHere_20 rfl rfl ?_
      refine fr_get (pc := 21) (k := 9) (v := .int (σ 0 9)) O cl_X4 m_722 (sM_0 hG) (by decide) rfl rfl dX4_nameHere_21 ?_
      refine fr_isub (pc := 24) O dX4_nameHere_24 ?_
      refine fr_aload_n (pc := 25) O 0 dX4_nameHere_25 rfl rfl ?_
      refine fr_get (pc := 26) (k := 12) (v := .ref (gad G 4)) O cl_X4 m_725 (sM_0 hG) (by decide) rfl rfl dX4_nameHere_26 ?_
      refine fr_iload_n (pc := 29) O 1 dX4_nameHere_29 rfl rfl ?_
      refine fr_iconst (pc := 30) O (v := (1 : Int32)) dX4_nameHere_30 (by decide) ?_
      refine fr_iadd (pc := 31) O dX4_nameHere_31 ?_
      have hi_32 := h.1
      have h := h.2
      refine fr_iald (pc := 32) O (sM_4 hG) hi_32 dX4_nameHere_32 ?_
      refine fr_aload_n (pc := 33) O 0 dX4_nameHere_33 rfl rfl ?_
      refine fr_get (pc := 34) (k := 12) (v := .ref (gad G 4)) O cl_X4 m_725 (sM_0 hG) (by decide) rfl rfl dX4_nameHere_34 ?_
      refine fr_iload_n (pc := 37) O 1 dX4_nameHere_37 rfl rfl ?_
      have hi_38 := h.1
      have h := h.2
      refine fr_iald (pc := 38) O (sM_4 hG) hi_38 dX4_nameHere_38 ?_
      refine fr_isub (pc := 39) O dX4_nameHere_39 ?_
      refine fr_icmp_ne (pc := 40) (tgt := 47) O dX4_nameHere_40 (by decide) (fun c_40 => ?_) (fun c_40 => ?_)
      · have h := h.1 c_40
        refine fr_iconst (pc := 47) O (v := (0 : Int32)) dX4_nameHere_47 (by decide) ?_
        exact kX4_nameHere_B48 hG O hk2 h
      · have h := h.2 c_40
        refine fr_iconst (pc := 43) O (v := (1 : Int32)) dX4_nameHere_43 (by decide) ?_
        refine fr_goto (pc := 44) (tgt := 48) O dX4_nameHere_44 (by decide) ?_
        exact kX4_nameHere_B48 hG O hk2 h
set_option maxRecDepth 20000 in
theorem kX4_nameHere_L2w {X : Cx} {G : Gw} (hG : fw_IsM G) (O : fw_Ok X G cX4_nameHere 4 RX4 1 21 (some .int))  {post : Int32 → Mem → Prop}   {n9 : Nat} {x1 : Int32} {σ : Mem} (h : it1 (qX4_nameHere_L2 post) n9 x1 σ) : fw_At X G 4 (fw_QI X G post) 2 [(0, .ref (gad G 0)), (1, .int x1)] [] σ :=
  it1_walk (T := fun x1 σ => fw_At X G 4 (fw_QI X G post) 2 [(0, .ref (gad G 0)), (1, .int x1)] [] σ) (fun k2 hk2 x1 σ h => kX4_nameHere_L2 hG O hk2 h) n9 x1 σ h
def qX4_nameHere  (σ : Mem) (post : Int32 → Mem → Prop) : Prop := ∃ n9, it1 (qX4_nameHere_L2 post) n9 (0 : Int32) σ
set_option maxRecDepth 20000 in
theorem kX4_nameHere {X : Cx} {G : Gw} (hG : fw_IsM G) (O : fw_Ok X G cX4_nameHere 4 RX4 1 21 (some .int))   {σ : Mem} {post : Int32 → Mem → Prop} (h : qX4_nameHere  σ post) : fw_At X G 4 (fw_QI X G post) 0 [(0, .ref (gad G 0))] [] σ := by
  unfold qX4_nameHere at h
  refine fr_iconst (pc := 0) O (v := (0 : Int32)) dX4_nameHere_0 (by decide) ?_
  refine fr_istore_n (pc := 1) O [1, 0] (lv' := [(0, .ref (gad G 0)), (1, .int (0 : Int32))]) dX4_nameHere_1 rfl (by decide) rfl ?_
  obtain ⟨n9, h⟩ := h
  exact kX4_nameHere_L2w hG O  h
theorem tX4_nameHere (l : Launch) {G : Gw} (hG : fw_IsM G)   {σ : Mem} {post : Int32 → Mem → Prop} (h : qX4_nameHere  σ post) : fw_CI l G yX4_nameHere cX4_nameHere 4 .int 1 21 [.ref (gad G 0)] σ post := fw_ofI (sok_M hG) (by decide) (Nat.le_of_ble_eq_true rfl) (fun X O => kX4_nameHere hG O  h)
def qX4_readsOn_B269 (post : Mem → Prop) (σ : Mem) : Prop := post σ
set_option maxRecDepth 20000 in
theorem kX4_readsOn_B269 {X : Cx} {G : Gw} (hG : fw_IsM G) (O : fw_Ok X G cX4_readsOn 2 RX4 1 25 none)  {post : Mem → Prop}    {σ : Mem} (h : qX4_readsOn_B269 post σ) : fw_At X G 2 (fw_QV X G post) 269 [(0, .ref (gad G 0))] [] σ := by
  unfold qX4_readsOn_B269 at h
  exact fr_vret (pc := 269) O dX4_readsOn_269 h
def qX4_readsOn_B201 (post : Mem → Prop) (k140 : Mem → Prop) (s1 : Int32) (σ : Mem) : Prop := (∀ σ201 : Mem, σ201 = up2 σ 0 11 s1 → (∀ σ211 : Mem, σ211 = up2 σ201 0 8 ((σ201 0 8) + (1 : Int32)) → k140 σ211))
set_option maxRecDepth 20000 in
theorem kX4_readsOn_B201 {X : Cx} {G : Gw} (hG : fw_IsM G) (O : fw_Ok X G cX4_readsOn 2 RX4 1 25 none)  {post : Mem → Prop} {k140 : Mem → Prop}  (hk140 : ∀ (σ : Mem), k140  σ → fw_At X G 2 (fw_QV X G post) 140 [(0, .ref (gad G 0))] [] σ) {s1 : Int32} {σ : Mem} (h : qX4_readsOn_B201 post k140 s1 σ) : fw_At X G 2 (fw_QV X G post) 201 [(0, .ref (gad G 0))] [.int s1, .ref (gad G 0)] σ := by
  unfold qX4_readsOn_B201 at h
  refine fr_put (pc := 201) (k := 11) O cl_X4 m_724 (sM_0 hG) (by decide) rfl rfl rfl rfl (fun _ => Nat.le_of_ble_eq_true rfl) (fun _ => rfl) dX4_readsOn_201 (fun σ201 e_σ201 => ?_)
  have h := h σ201 e_σ201
  refine fr_aload_n (pc := 204) O 0 dX4_readsOn_204 rfl rfl ?_
  refine fr_dup (pc := 205) O dX4_readsOn_205 rfl ?_
  refine fr_get (pc := 206) (k := 8) (v := .int (σ201 0 8)) O cl_X4 m_721 (sM_0 hG) (by decide) rfl rfl dX4_readsOn_206 ?_
  refine fr_iconst (pc := 209) O (v := (1 : Int32)) dX4_readsOn_209 (by decide) ?_
  refine fr_iadd (pc := 210) O dX4_readsOn_210 ?_
  refine fr_put (pc := 211) (k := 8) O cl_X4 m_721 (sM_0 hG) (by decide) rfl rfl rfl rfl (fun _ => Nat.le_of_ble_eq_true rfl) (fun _ => rfl) dX4_readsOn_211 (fun σ211 e_σ211 => ?_)
  have h := h σ211 e_σ211
  refine fr_goto (pc := 214) (tgt := 140) O dX4_readsOn_214 (by decide) ?_
  exact hk140 _ h
def qX4_readsOn_L140 (post : Mem → Prop) (k140 : Mem → Prop) (σ : Mem) : Prop := (qX4_byteAt (σ 0 8) σ (fun r145 σ145 => (qX4_in r145.toInt64 (48 : Int64) (57 : Int64) σ145 (fun r155 σ155 => ((r155 = 0 → (∀ σ219 : Mem, σ219 = up2 σ155 0 10 (2 : Int32) → ((((σ219 0 8) - (σ219 0 9)) ≤ (2 : Int32) → qX4_readsOn_B269 post σ219) ∧ (¬ ((σ219 0 8) - (σ219 0 9)) ≤ (2 : Int32) → (qX4_fails (1 : Int32) σ219 (fun σ237 => qX4_readsOn_B269 post σ237)))))) ∧ (¬ r155 = 0 → (((2 : Int32) ≤ ((σ155 0 8) - (σ155 0 9)) → qX4_readsOn_B201 post k140 (σ155 0 11) σ155) ∧ (¬ (2 : Int32) ≤ ((σ155 0 8) - (σ155 0 9)) → (qX4_byteAt (σ155 0 8) σ155 (fun r187 σ187 => qX4_readsOn_B201 post k140 ((((10 : Int32) * (σ155 0 11)) + r187) - (48 : Int32)) σ187))))))))))
set_option maxRecDepth 20000 in
theorem kX4_readsOn_L140 {X : Cx} {G : Gw} (hG : fw_IsM G) (O : fw_Ok X G cX4_readsOn 2 RX4 1 25 none)  {post : Mem → Prop} {k140 : Mem → Prop}  (hk140 : ∀ (σ : Mem), k140  σ → fw_At X G 2 (fw_QV X G post) 140 [(0, .ref (gad G 0))] [] σ)  {σ : Mem} (h : qX4_readsOn_L140 post k140 σ) : fw_At X G 2 (fw_QV X G post) 140 [(0, .ref (gad G 0))] [] σ := by
  unfold qX4_readsOn_L140 at h
  refine fr_aload_n (pc := 140) O 0 dX4_readsOn_140 rfl rfl ?_
  refine fr_aload_n (pc := 141) O 0 dX4_readsOn_141 rfl rfl ?_
  refine fr_get (pc := 142) (k := 8) (v := .int (σ 0 8)) O cl_X4 m_721 (sM_0 hG) (by decide) rfl rfl dX4_readsOn_142 ?_
  refine fr_callVI (pc := 145) (st := []) O (tX4_byteAt X.2.1 hG  h) mt_X4_byteAt mv_X4_byteAt m_812 cl_X4 rfl (sM_0 hG) rfl (by decide) rfl (Nat.le_of_ble_eq_true rfl) dX4_readsOn_145 (fun r145 σ145 h => ?_)
  refine fr_i2l (pc := 148) O dX4_readsOn_148 ?_
  refine fr_ldc2 (pc := 149) O m_818 dX4_readsOn_149 ?_
  refine fr_ldc2 (pc := 152) O m_819 dX4_readsOn_152 ?_
  refine fr_callSI (pc := 155) (st := []) O (tX4_in X.2.1 hG  h) mt_X4_in m_798 m_797 rfl (by decide) rfl (Nat.le_of_ble_eq_true rfl) dX4_readsOn_155 (fun r155 σ155 h => ?_)
  refine fr_if_eq (pc := 158) (tgt := 217) O dX4_readsOn_158 (by decide) (fun c_158 => ?_) (fun c_158 => ?_)
  · have h := h.1 c_158
    refine fr_aload_n (pc := 217) O 0 dX4_readsOn_217 rfl rfl ?_
    refine fr_iconst (pc := 218) O (v := (2 : Int32)) dX4_readsOn_218 (by decide) ?_
    refine fr_put (pc := 219) (k := 10) O cl_X4 m_723 (sM_0 hG) (by decide) rfl rfl rfl rfl (fun _ => Nat.le_of_ble_eq_true rfl) (fun _ => rfl) dX4_readsOn_219 (fun σ219 e_σ219 => ?_)
    have h := h σ219 e_σ219
    refine fr_aload_n (pc := 222) O 0 dX4_readsOn_222 rfl rfl ?_
    refine fr_get (pc := 223) (k := 8) (v := .int (σ219 0 8)) O cl_X4 m_721 (sM_0 hG) (by decide) rfl rfl dX4_readsOn_223 ?_
    refine fr_aload_n (pc := 226) O 0 dX4_readsOn_226 rfl rfl ?_
    refine fr_get (pc := 227) (k := 9) (v := .int (σ219 0 9)) O cl_X4 m_722 (sM_0 hG) (by decide) rfl rfl dX4_readsOn_227 ?_
    refine fr_isub (pc := 230) O dX4_readsOn_230 ?_
    refine fr_iconst (pc := 231) O (v := (2 : Int32)) dX4_readsOn_231 (by decide) ?_
    refine fr_icmp_le (pc := 232) (tgt := 269) O dX4_readsOn_232 (by decide) (fun c_232 => ?_) (fun c_232 => ?_)
    · have h := h.1 c_232
      exact kX4_readsOn_B269 hG O  h
    · have h := h.2 c_232
      refine fr_aload_n (pc := 235) O 0 dX4_readsOn_235 rfl rfl ?_
      refine fr_iconst (pc := 236) O (v := (1 : Int32)) dX4_readsOn_236 (by decide) ?_
      refine fr_callVV (pc := 237) (st := []) O (tX4_fails X.2.1 hG  h) mt_X4_fails mv_X4_fails m_820 cl_X4 rfl (sM_0 hG) rfl (by decide) rfl (Nat.le_of_ble_eq_true rfl) dX4_readsOn_237 (fun σ237 h => ?_)
      refine fr_goto (pc := 240) (tgt := 269) O dX4_readsOn_240 (by decide) ?_
      exact kX4_readsOn_B269 hG O  h
  · have h := h.2 c_158
    refine fr_aload_n (pc := 161) O 0 dX4_readsOn_161 rfl rfl ?_
    refine fr_aload_n (pc := 162) O 0 dX4_readsOn_162 rfl rfl ?_
    refine fr_get (pc := 163) (k := 8) (v := .int (σ155 0 8)) O cl_X4 m_721 (sM_0 hG) (by decide) rfl rfl dX4_readsOn_163 ?_
    refine fr_aload_n (pc := 166) O 0 dX4_readsOn_166 rfl rfl ?_
    refine fr_get (pc := 167) (k := 9) (v := .int (σ155 0 9)) O cl_X4 m_722 (sM_0 hG) (by decide) rfl rfl dX4_readsOn_167 ?_
    refine fr_isub (pc := 170) O dX4_readsOn_170 ?_
    refine fr_iconst (pc := 171) O (v := (2 : Int32)) dX4_readsOn_171 (by decide) ?_
    refine fr_icmp_ge (pc := 172) (tgt := 197) O dX4_readsOn_172 (by decide) (fun c_172 => ?_) (fun c_172 => ?_)
    · have h := h.1 c_172
      refine fr_aload_n (pc := 197) O 0 dX4_readsOn_197 rfl rfl ?_
      refine fr_get (pc := 198) (k := 11) (v := .int (σ155 0 11)) O cl_X4 m_724 (sM_0 hG) (by decide) rfl rfl dX4_readsOn_198 ?_
      exact kX4_readsOn_B201 hG O hk140 h
    · have h := h.2 c_172
      refine fr_bipush (pc := 175) O (v := (10 : Int32)) dX4_readsOn_175 (by decide) ?_
      refine fr_aload_n (pc := 177) O 0 dX4_readsOn_177 rfl rfl ?_
      refine fr_get (pc := 178) (k := 11) (v := .int (σ155 0 11)) O cl_X4 m_724 (sM_0 hG) (by decide) rfl rfl dX4_readsOn_178 ?_
      refine fr_imul (pc := 181) O dX4_readsOn_181 ?_
      refine fr_aload_n (pc := 182) O 0 dX4_readsOn_182 rfl rfl ?_
      refine fr_aload_n (pc := 183) O 0 dX4_readsOn_183 rfl rfl ?_
      refine fr_get (pc := 184) (k := 8) (v := .int (σ155 0 8)) O cl_X4 m_721 (sM_0 hG) (by decide) rfl rfl dX4_readsOn_184 ?_
      refine fr_callVI (pc := 187) (st := [.int ((10 : Int32) * (σ155 0 11)), .ref (gad G 0)]) O (tX4_byteAt X.2.1 hG  h) mt_X4_byteAt mv_X4_byteAt m_812 cl_X4 rfl (sM_0 hG) rfl (by decide) rfl (Nat.le_of_ble_eq_true rfl) dX4_readsOn_187 (fun r187 σ187 h => ?_)
      refine fr_iadd (pc := 190) O dX4_readsOn_190 ?_
      refine fr_bipush (pc := 191) O (v := (48 : Int32)) dX4_readsOn_191 (by decide) ?_
      refine fr_isub (pc := 193) O dX4_readsOn_193 ?_
      refine fr_goto (pc := 194) (tgt := 201) O dX4_readsOn_194 (by decide) ?_
      exact kX4_readsOn_B201 hG O hk140 h
set_option maxRecDepth 20000 in
theorem kX4_readsOn_L140w {X : Cx} {G : Gw} (hG : fw_IsM G) (O : fw_Ok X G cX4_readsOn 2 RX4 1 25 none)  {post : Mem → Prop}   {n9 : Nat}  {σ : Mem} (h : it0 (qX4_readsOn_L140 post) n9 σ) : fw_At X G 2 (fw_QV X G post) 140 [(0, .ref (gad G 0))] [] σ :=
  it0_walk (T := fun  σ => fw_At X G 2 (fw_QV X G post) 140 [(0, .ref (gad G 0))] [] σ) (fun k140 hk140  σ h => kX4_readsOn_L140 hG O hk140 h) n9 σ h
def qX4_readsOn_L84 (post : Mem → Prop) (k84 : Mem → Prop) (σ : Mem) : Prop := (qX4_byteAt (σ 0 8) σ (fun r89 σ89 => (qX4_in r89.toInt64 (97 : Int64) (122 : Int64) σ89 (fun r99 σ99 => ((r99 = 0 → (∀ σ120 : Mem, σ120 = up2 σ99 0 10 (1 : Int32) → qX4_readsOn_B269 post σ120)) ∧ (¬ r99 = 0 → (∀ σ112 : Mem, σ112 = up2 σ99 0 8 ((σ99 0 8) + (1 : Int32)) → k84 σ112)))))))
set_option maxRecDepth 20000 in
theorem kX4_readsOn_L84 {X : Cx} {G : Gw} (hG : fw_IsM G) (O : fw_Ok X G cX4_readsOn 2 RX4 1 25 none)  {post : Mem → Prop} {k84 : Mem → Prop}  (hk84 : ∀ (σ : Mem), k84  σ → fw_At X G 2 (fw_QV X G post) 84 [(0, .ref (gad G 0))] [] σ)  {σ : Mem} (h : qX4_readsOn_L84 post k84 σ) : fw_At X G 2 (fw_QV X G post) 84 [(0, .ref (gad G 0))] [] σ := by
  unfold qX4_readsOn_L84 at h
  refine fr_aload_n (pc := 84) O 0 dX4_readsOn_84 rfl rfl ?_
  refine fr_aload_n (pc := 85) O 0 dX4_readsOn_85 rfl rfl ?_
  refine fr_get (pc := 86) (k := 8) (v := .int (σ 0 8)) O cl_X4 m_721 (sM_0 hG) (by decide) rfl rfl dX4_readsOn_86 ?_
  refine fr_callVI (pc := 89) (st := []) O (tX4_byteAt X.2.1 hG  h) mt_X4_byteAt mv_X4_byteAt m_812 cl_X4 rfl (sM_0 hG) rfl (by decide) rfl (Nat.le_of_ble_eq_true rfl) dX4_readsOn_89 (fun r89 σ89 h => ?_)
  refine fr_i2l (pc := 92) O dX4_readsOn_92 ?_
  refine fr_ldc2 (pc := 93) O m_816 dX4_readsOn_93 ?_
  refine fr_ldc2 (pc := 96) O m_817 dX4_readsOn_96 ?_
  refine fr_callSI (pc := 99) (st := []) O (tX4_in X.2.1 hG  h) mt_X4_in m_798 m_797 rfl (by decide) rfl (Nat.le_of_ble_eq_true rfl) dX4_readsOn_99 (fun r99 σ99 h => ?_)
  refine fr_if_eq (pc := 102) (tgt := 118) O dX4_readsOn_102 (by decide) (fun c_102 => ?_) (fun c_102 => ?_)
  · have h := h.1 c_102
    refine fr_aload_n (pc := 118) O 0 dX4_readsOn_118 rfl rfl ?_
    refine fr_iconst (pc := 119) O (v := (1 : Int32)) dX4_readsOn_119 (by decide) ?_
    refine fr_put (pc := 120) (k := 10) O cl_X4 m_723 (sM_0 hG) (by decide) rfl rfl rfl rfl (fun _ => Nat.le_of_ble_eq_true rfl) (fun _ => rfl) dX4_readsOn_120 (fun σ120 e_σ120 => ?_)
    have h := h σ120 e_σ120
    refine fr_goto (pc := 123) (tgt := 269) O dX4_readsOn_123 (by decide) ?_
    exact kX4_readsOn_B269 hG O  h
  · have h := h.2 c_102
    refine fr_aload_n (pc := 105) O 0 dX4_readsOn_105 rfl rfl ?_
    refine fr_dup (pc := 106) O dX4_readsOn_106 rfl ?_
    refine fr_get (pc := 107) (k := 8) (v := .int (σ99 0 8)) O cl_X4 m_721 (sM_0 hG) (by decide) rfl rfl dX4_readsOn_107 ?_
    refine fr_iconst (pc := 110) O (v := (1 : Int32)) dX4_readsOn_110 (by decide) ?_
    refine fr_iadd (pc := 111) O dX4_readsOn_111 ?_
    refine fr_put (pc := 112) (k := 8) O cl_X4 m_721 (sM_0 hG) (by decide) rfl rfl rfl rfl (fun _ => Nat.le_of_ble_eq_true rfl) (fun _ => rfl) dX4_readsOn_112 (fun σ112 e_σ112 => ?_)
    have h := h σ112 e_σ112
    refine fr_goto (pc := 115) (tgt := 84) O dX4_readsOn_115 (by decide) ?_
    exact hk84 _ h
set_option maxRecDepth 20000 in
theorem kX4_readsOn_L84w {X : Cx} {G : Gw} (hG : fw_IsM G) (O : fw_Ok X G cX4_readsOn 2 RX4 1 25 none)  {post : Mem → Prop}   {n9 : Nat}  {σ : Mem} (h : it0 (qX4_readsOn_L84 post) n9 σ) : fw_At X G 2 (fw_QV X G post) 84 [(0, .ref (gad G 0))] [] σ :=
  it0_walk (T := fun  σ => fw_At X G 2 (fw_QV X G post) 84 [(0, .ref (gad G 0))] [] σ) (fun k84 hk84  σ h => kX4_readsOn_L84 hG O hk84 h) n9 σ h
def qX4_readsOn_L8 (post : Mem → Prop) (k8 : Mem → Prop) (σ : Mem) : Prop := (qX4_byteAt (σ 0 8) σ (fun r13 σ13 => ((¬ r13 = (32 : Int32) → (∀ σ39 : Mem, σ39 = up2 σ13 0 9 (σ13 0 8) → (qX4_byteAt (σ39 0 8) σ39 (fun r47 σ47 => (∀ σ53 : Mem, σ53 = up2 σ47 0 11 (0 : Int32) → ((¬ r47 = (-4 : Int32) → (qX4_in r47.toInt64 (97 : Int64) (122 : Int64) σ53 (fun r78 σ78 => ((r78 = 0 → (qX4_in r47.toInt64 (48 : Int64) (57 : Int64) σ78 (fun r134 σ134 => ((r134 = 0 → (∀ σ245 : Mem, σ245 = up2 σ134 0 10 (3 : Int32) → (∀ σ255 : Mem, σ255 = up2 σ245 0 8 ((σ245 0 8) + (1 : Int32)) → ((r47 = (59 : Int32) → qX4_readsOn_B269 post σ255) ∧ (¬ r47 = (59 : Int32) → (qX4_fails (1 : Int32) σ255 (fun σ266 => qX4_readsOn_B269 post σ266))))))) ∧ (¬ r134 = 0 → ∃ n9, it0 (qX4_readsOn_L140 post) n9 σ134))))) ∧ (¬ r78 = 0 → ∃ n9, it0 (qX4_readsOn_L84 post) n9 σ78))))) ∧ (r47 = (-4 : Int32) → (∀ σ64 : Mem, σ64 = up2 σ53 0 10 (0 : Int32) → qX4_readsOn_B269 post σ64)))))))) ∧ (r13 = (32 : Int32) → (∀ σ28 : Mem, σ28 = up2 σ13 0 8 ((σ13 0 8) + (1 : Int32)) → k8 σ28)))))
set_option maxRecDepth 20000 in
theorem kX4_readsOn_L8 {X : Cx} {G : Gw} (hG : fw_IsM G) (O : fw_Ok X G cX4_readsOn 2 RX4 1 25 none)  {post : Mem → Prop} {k8 : Mem → Prop}  (hk8 : ∀ (σ : Mem), k8  σ → fw_At X G 2 (fw_QV X G post) 8 [(0, .ref (gad G 0))] [] σ)  {σ : Mem} (h : qX4_readsOn_L8 post k8 σ) : fw_At X G 2 (fw_QV X G post) 8 [(0, .ref (gad G 0))] [] σ := by
  unfold qX4_readsOn_L8 at h
  refine fr_aload_n (pc := 8) O 0 dX4_readsOn_8 rfl rfl ?_
  refine fr_aload_n (pc := 9) O 0 dX4_readsOn_9 rfl rfl ?_
  refine fr_get (pc := 10) (k := 8) (v := .int (σ 0 8)) O cl_X4 m_721 (sM_0 hG) (by decide) rfl rfl dX4_readsOn_10 ?_
  refine fr_callVI (pc := 13) (st := []) O (tX4_byteAt X.2.1 hG  h) mt_X4_byteAt mv_X4_byteAt m_812 cl_X4 rfl (sM_0 hG) rfl (by decide) rfl (Nat.le_of_ble_eq_true rfl) dX4_readsOn_13 (fun r13 σ13 h => ?_)
  refine fr_bipush (pc := 16) O (v := (32 : Int32)) dX4_readsOn_16 (by decide) ?_
  refine fr_icmp_ne (pc := 18) (tgt := 34) O dX4_readsOn_18 (by decide) (fun c_18 => ?_) (fun c_18 => ?_)
  · have h := h.1 c_18
    refine fr_aload_n (pc := 34) O 0 dX4_readsOn_34 rfl rfl ?_
    refine fr_aload_n (pc := 35) O 0 dX4_readsOn_35 rfl rfl ?_
    refine fr_get (pc := 36) (k := 8) (v := .int (σ13 0 8)) O cl_X4 m_721 (sM_0 hG) (by decide) rfl rfl dX4_readsOn_36 ?_
    refine fr_put (pc := 39) (k := 9) O cl_X4 m_722 (sM_0 hG) (by decide) rfl rfl rfl rfl (fun _ => Nat.le_of_ble_eq_true rfl) (fun _ => rfl) dX4_readsOn_39 (fun σ39 e_σ39 => ?_)
    have h := h σ39 e_σ39
    refine fr_aload_n (pc := 42) O 0 dX4_readsOn_42 rfl rfl ?_
    refine fr_aload_n (pc := 43) O 0 dX4_readsOn_43 rfl rfl ?_
    refine fr_get (pc := 44) (k := 8) (v := .int (σ39 0 8)) O cl_X4 m_721 (sM_0 hG) (by decide) rfl rfl dX4_readsOn_44 ?_
    refine fr_callVI (pc := 47) (st := []) O (tX4_byteAt X.2.1 hG  h) mt_X4_byteAt mv_X4_byteAt m_812 cl_X4 rfl (sM_0 hG) rfl (by decide) rfl (Nat.le_of_ble_eq_true rfl) dX4_readsOn_47 (fun r47 σ47 h => ?_)
    refine fr_istore_n (pc := 50) O [1, 0] (lv' := [(0, .ref (gad G 0)), (1, .int r47)]) dX4_readsOn_50 rfl (by decide) rfl ?_
    refine fr_aload_n (pc := 51) O 0 dX4_readsOn_51 rfl rfl ?_
    refine fr_iconst (pc := 52) O (v := (0 : Int32)) dX4_readsOn_52 (by decide) ?_
    refine fr_put (pc := 53) (k := 11) O cl_X4 m_724 (sM_0 hG) (by decide) rfl rfl rfl rfl (fun _ => Nat.le_of_ble_eq_true rfl) (fun _ => rfl) dX4_readsOn_53 (fun σ53 e_σ53 => ?_)
    have h := h σ53 e_σ53
    refine fr_iload_n (pc := 56) O 1 dX4_readsOn_56 rfl rfl ?_
    refine fr_bipush (pc := 57) O (v := (-4 : Int32)) dX4_readsOn_57 (by decide) ?_
    refine fr_icmp_ne (pc := 59) (tgt := 70) O dX4_readsOn_59 (by decide) (fun c_59 => ?_) (fun c_59 => ?_)
    · have h := h.1 c_59
      refine fr_iload_n (pc := 70) O 1 dX4_readsOn_70 rfl rfl ?_
      refine fr_i2l (pc := 71) O dX4_readsOn_71 ?_
      refine fr_ldc2 (pc := 72) O m_816 dX4_readsOn_72 ?_
      refine fr_ldc2 (pc := 75) O m_817 dX4_readsOn_75 ?_
      refine fr_callSI (pc := 78) (st := []) O (tX4_in X.2.1 hG  h) mt_X4_in m_798 m_797 rfl (by decide) rfl (Nat.le_of_ble_eq_true rfl) dX4_readsOn_78 (fun r78 σ78 h => ?_)
      refine fr_if_eq (pc := 81) (tgt := 126) O dX4_readsOn_81 (by decide) (fun c_81 => ?_) (fun c_81 => ?_)
      · have h := h.1 c_81
        refine fr_iload_n (pc := 126) O 1 dX4_readsOn_126 rfl rfl ?_
        refine fr_i2l (pc := 127) O dX4_readsOn_127 ?_
        refine fr_ldc2 (pc := 128) O m_818 dX4_readsOn_128 ?_
        refine fr_ldc2 (pc := 131) O m_819 dX4_readsOn_131 ?_
        refine fr_callSI (pc := 134) (st := []) O (tX4_in X.2.1 hG  h) mt_X4_in m_798 m_797 rfl (by decide) rfl (Nat.le_of_ble_eq_true rfl) dX4_readsOn_134 (fun r134 σ134 h => ?_)
        refine fr_if_eq (pc := 137) (tgt := 243) O dX4_readsOn_137 (by decide) (fun c_137 => ?_) (fun c_137 => ?_)
        · have h := h.1 c_137
          refine fr_aload_n (pc := 243) O 0 dX4_readsOn_243 rfl rfl ?_
          refine fr_iconst (pc := 244) O (v := (3 : Int32)) dX4_readsOn_244 (by decide) ?_
          refine fr_put (pc := 245) (k := 10) O cl_X4 m_723 (sM_0 hG) (by decide) rfl rfl rfl rfl (fun _ => Nat.le_of_ble_eq_true rfl) (fun _ => rfl) dX4_readsOn_245 (fun σ245 e_σ245 => ?_)
          have h := h σ245 e_σ245
          refine fr_aload_n (pc := 248) O 0 dX4_readsOn_248 rfl rfl ?_
          refine fr_dup (pc := 249) O dX4_readsOn_249 rfl ?_
          refine fr_get (pc := 250) (k := 8) (v := .int (σ245 0 8)) O cl_X4 m_721 (sM_0 hG) (by decide) rfl rfl dX4_readsOn_250 ?_
          refine fr_iconst (pc := 253) O (v := (1 : Int32)) dX4_readsOn_253 (by decide) ?_
          refine fr_iadd (pc := 254) O dX4_readsOn_254 ?_
          refine fr_put (pc := 255) (k := 8) O cl_X4 m_721 (sM_0 hG) (by decide) rfl rfl rfl rfl (fun _ => Nat.le_of_ble_eq_true rfl) (fun _ => rfl) dX4_readsOn_255 (fun σ255 e_σ255 => ?_)
          have h := h σ255 e_σ255
          refine fr_iload_n (pc := 258) O 1 dX4_readsOn_258 rfl rfl ?_
          refine fr_bipush (pc := 259) O (v := (59 : Int32)) dX4_readsOn_259 (by decide) ?_
          refine fr_icmp_eq (pc := 261) (tgt := 269) O dX4_readsOn_261 (by decide) (fun c_261 => ?_) (fun c_261 => ?_)
          · have h := h.1 c_261
            refine fw_sub (lv' := [(0, .ref (gad G 0))]) [0] rfl ?_
            exact kX4_readsOn_B269 hG O  h
          · have h := h.2 c_261
            refine fr_aload_n (pc := 264) O 0 dX4_readsOn_264 rfl rfl ?_
            refine fr_iconst (pc := 265) O (v := (1 : Int32)) dX4_readsOn_265 (by decide) ?_
            refine fr_callVV (pc := 266) (st := []) O (tX4_fails X.2.1 hG  h) mt_X4_fails mv_X4_fails m_820 cl_X4 rfl (sM_0 hG) rfl (by decide) rfl (Nat.le_of_ble_eq_true rfl) dX4_readsOn_266 (fun σ266 h => ?_)
            refine fw_sub (lv' := [(0, .ref (gad G 0))]) [0] rfl ?_
            exact kX4_readsOn_B269 hG O  h
        · have h := h.2 c_137
          refine fw_sub (lv' := [(0, .ref (gad G 0))]) [0] rfl ?_
          obtain ⟨n9, h⟩ := h
          exact kX4_readsOn_L140w hG O  h
      · have h := h.2 c_81
        refine fw_sub (lv' := [(0, .ref (gad G 0))]) [0] rfl ?_
        obtain ⟨n9, h⟩ := h
        exact kX4_readsOn_L84w hG O  h
    · have h := h.2 c_59
      refine fr_aload_n (pc := 62) O 0 dX4_readsOn_62 rfl rfl ?_
      refine fr_iconst (pc := 63) O (v := (0 : Int32)) dX4_readsOn_63 (by decide) ?_
      refine fr_put (pc := 64) (k := 10) O cl_X4 m_723 (sM_0 hG) (by decide) rfl rfl rfl rfl (fun _ => Nat.le_of_ble_eq_true rfl) (fun _ => rfl) dX4_readsOn_64 (fun σ64 e_σ64 => ?_)
      have h := h σ64 e_σ64
      refine fr_goto (pc := 67) (tgt := 269) O dX4_readsOn_67 (by decide) ?_
      refine fw_sub (lv' := [(0, .ref (gad G 0))]) [0] rfl ?_
      exact kX4_readsOn_B269 hG O  h
  · have h := h.2 c_18
    refine fr_aload_n (pc := 21) O 0 dX4_readsOn_21 rfl rfl ?_
    refine fr_dup (pc := 22) O dX4_readsOn_22 rfl ?_
    refine fr_get (pc := 23) (k := 8) (v := .int (σ13 0 8)) O cl_X4 m_721 (sM_0 hG) (by decide) rfl rfl dX4_readsOn_23 ?_
    refine fr_iconst (pc := 26) O (v := (1 : Int32)) dX4_readsOn_26 (by decide) ?_
    refine fr_iadd (pc := 27) O dX4_readsOn_27 ?_
    refine fr_put (pc := 28) (k := 8) O cl_X4 m_721 (sM_0 hG) (by decide) rfl rfl rfl rfl (fun _ => Nat.le_of_ble_eq_true rfl) (fun _ => rfl) dX4_readsOn_28 (fun σ28 e_σ28 => ?_)
    have h := h σ28 e_σ28
    refine fr_goto (pc := 31) (tgt := 8) O dX4_readsOn_31 (by decide) ?_
    exact hk8 _ h
set_option maxRecDepth 20000 in
theorem kX4_readsOn_L8w {X : Cx} {G : Gw} (hG : fw_IsM G) (O : fw_Ok X G cX4_readsOn 2 RX4 1 25 none)  {post : Mem → Prop}   {n9 : Nat}  {σ : Mem} (h : it0 (qX4_readsOn_L8 post) n9 σ) : fw_At X G 2 (fw_QV X G post) 8 [(0, .ref (gad G 0))] [] σ :=
  it0_walk (T := fun  σ => fw_At X G 2 (fw_QV X G post) 8 [(0, .ref (gad G 0))] [] σ) (fun k8 hk8  σ h => kX4_readsOn_L8 hG O hk8 h) n9 σ h
def qX4_readsOn  (σ : Mem) (post : Mem → Prop) : Prop := (((σ 0 6) ≤ 0 → ∃ n9, it0 (qX4_readsOn_L8 post) n9 σ) ∧ (¬ (σ 0 6) ≤ 0 → post σ))
set_option maxRecDepth 20000 in
theorem kX4_readsOn {X : Cx} {G : Gw} (hG : fw_IsM G) (O : fw_Ok X G cX4_readsOn 2 RX4 1 25 none)   {σ : Mem} {post : Mem → Prop} (h : qX4_readsOn  σ post) : fw_At X G 2 (fw_QV X G post) 0 [(0, .ref (gad G 0))] [] σ := by
  unfold qX4_readsOn at h
  refine fr_aload_n (pc := 0) O 0 dX4_readsOn_0 rfl rfl ?_
  refine fr_get (pc := 1) (k := 6) (v := .int (σ 0 6)) O cl_X4 m_719 (sM_0 hG) (by decide) rfl rfl dX4_readsOn_1 ?_
  refine fr_if_le (pc := 4) (tgt := 8) O dX4_readsOn_4 (by decide) (fun c_4 => ?_) (fun c_4 => ?_)
  · have h := h.1 c_4
    obtain ⟨n9, h⟩ := h
    exact kX4_readsOn_L8w hG O  h
  · have h := h.2 c_4
    exact fr_vret (pc := 7) O dX4_readsOn_7 h
theorem tX4_readsOn (l : Launch) {G : Gw} (hG : fw_IsM G)   {σ : Mem} {post : Mem → Prop} (h : qX4_readsOn  σ post) : fw_CV l G yX4_readsOn cX4_readsOn 2 1 25 [.ref (gad G 0)] σ post := fw_ofV (sok_M hG) (by decide) (Nat.le_of_ble_eq_true rfl) (fun X O => kX4_readsOn hG O  h)
def qX4_number_B62 (a1 : Int32) (a2 : Int32) (post : Int32 → Mem → Prop) (s0 : Int32) (σ : Mem) : Prop := (qX4_readsOn σ (fun σ64 => post s0 σ64))
set_option maxRecDepth 20000 in
theorem kX4_number_B62 {X : Cx} {G : Gw} (hG : fw_IsM G) (O : fw_Ok X G cX4_number 4 RX4 2 46 (some .int)) {a1 : Int32} {a2 : Int32} {post : Int32 → Mem → Prop}   {s0 : Int32} {σ : Mem} (h : qX4_number_B62 a1 a2 post s0 σ) : fw_At X G 4 (fw_QI X G post) 62 [(0, .ref (gad G 0)), (1, .int a1), (2, .int a2)] [.int s0] σ := by
  unfold qX4_number_B62 at h
  refine fr_istore_n (pc := 62) O [1, 2, 3, 0] (lv' := [(0, .ref (gad G 0)), (1, .int a1), (2, .int a2), (3, .int s0)]) dX4_number_62 rfl (by decide) rfl ?_
  refine fr_aload_n (pc := 63) O 0 dX4_number_63 rfl rfl ?_
  refine fr_callVV (pc := 64) (st := []) O (tX4_readsOn X.2.1 hG  h) mt_X4_readsOn mv_X4_readsOn m_808 cl_X4 rfl (sM_0 hG) rfl (by decide) rfl (Nat.le_of_ble_eq_true rfl) dX4_number_64 (fun σ64 h => ?_)
  refine fr_iload_n (pc := 67) O 3 dX4_number_67 rfl rfl ?_
  exact fr_iret (pc := 68) O dX4_number_68 h
def qX4_number_B47 (a1 : Int32) (a2 : Int32) (post : Int32 → Mem → Prop) (σ : Mem) : Prop := ((¬ (σ 0 6) = 0 → qX4_number_B62 a1 a2 post a1 σ) ∧ ((σ 0 6) = 0 → qX4_number_B62 a1 a2 post (σ 0 11) σ))
set_option maxRecDepth 20000 in
theorem kX4_number_B47 {X : Cx} {G : Gw} (hG : fw_IsM G) (O : fw_Ok X G cX4_number 4 RX4 2 46 (some .int)) {a1 : Int32} {a2 : Int32} {post : Int32 → Mem → Prop}    {σ : Mem} (h : qX4_number_B47 a1 a2 post σ) : fw_At X G 4 (fw_QI X G post) 47 [(0, .ref (gad G 0)), (1, .int a1), (2, .int a2)] [] σ := by
  unfold qX4_number_B47 at h
  refine fr_aload_n (pc := 47) O 0 dX4_number_47 rfl rfl ?_
  refine fr_get (pc := 48) (k := 6) (v := .int (σ 0 6)) O cl_X4 m_719 (sM_0 hG) (by decide) rfl rfl dX4_number_48 ?_
  refine fr_if_ne (pc := 51) (tgt := 61) O dX4_number_51 (by decide) (fun c_51 => ?_) (fun c_51 => ?_)
  · have h := h.1 c_51
    refine fr_iload_n (pc := 61) O 1 dX4_number_61 rfl rfl ?_
    exact kX4_number_B62 hG O  h
  · have h := h.2 c_51
    refine fr_aload_n (pc := 54) O 0 dX4_number_54 rfl rfl ?_
    refine fr_get (pc := 55) (k := 11) (v := .int (σ 0 11)) O cl_X4 m_724 (sM_0 hG) (by decide) rfl rfl dX4_number_55 ?_
    refine fr_goto (pc := 58) (tgt := 62) O dX4_number_58 (by decide) ?_
    exact kX4_number_B62 hG O  h
def qX4_number_B20 (a1 : Int32) (a2 : Int32) (post : Int32 → Mem → Prop) (σ : Mem) : Prop := ((¬ (σ 0 6) = 0 → qX4_number_B47 a1 a2 post σ) ∧ ((σ 0 6) = 0 → (qX4_in ((σ 0 11).toInt64) a1.toInt64 a2.toInt64 σ (fun r36 σ36 => ((¬ r36 = 0 → qX4_number_B47 a1 a2 post σ36) ∧ (r36 = 0 → (qX4_fails (3 : Int32) σ36 (fun σ44 => qX4_number_B47 a1 a2 post σ44))))))))
set_option maxRecDepth 20000 in
theorem kX4_number_B20 {X : Cx} {G : Gw} (hG : fw_IsM G) (O : fw_Ok X G cX4_number 4 RX4 2 46 (some .int)) {a1 : Int32} {a2 : Int32} {post : Int32 → Mem → Prop}    {σ : Mem} (h : qX4_number_B20 a1 a2 post σ) : fw_At X G 4 (fw_QI X G post) 20 [(0, .ref (gad G 0)), (1, .int a1), (2, .int a2)] [] σ := by
  unfold qX4_number_B20 at h
  refine fr_aload_n (pc := 20) O 0 dX4_number_20 rfl rfl ?_
  refine fr_get (pc := 21) (k := 6) (v := .int (σ 0 6)) O cl_X4 m_719 (sM_0 hG) (by decide) rfl rfl dX4_number_21 ?_
  refine fr_if_ne (pc := 24) (tgt := 47) O dX4_number_24 (by decide) (fun c_24 => ?_) (fun c_24 => ?_)
  · have h := h.1 c_24
    exact kX4_number_B47 hG O  h
  · have h := h.2 c_24
    refine fr_aload_n (pc := 27) O 0 dX4_number_27 rfl rfl ?_
    refine fr_get (pc := 28) (k := 11) (v := .int (σ 0 11)) O cl_X4 m_724 (sM_0 hG) (by decide) rfl rfl dX4_number_28 ?_
    refine fr_i2l (pc := 31) O dX4_number_31 ?_
    refine fr_iload_n (pc := 32) O 1 dX4_number_32 rfl rfl ?_
    refine fr_i2l (pc := 33) O dX4_number_33 ?_
    refine fr_iload_n (pc := 34) O 2 dX4_number_34 rfl rfl ?_
    refine fr_i2l (pc := 35) O dX4_number_35 ?_
    refine fr_callSI (pc := 36) (st := []) O (tX4_in X.2.1 hG  h) mt_X4_in m_798 m_797 rfl (by decide) rfl (Nat.le_of_ble_eq_true rfl) dX4_number_36 (fun r36 σ36 h => ?_)
    refine fr_if_ne (pc := 39) (tgt := 47) O dX4_number_39 (by decide) (fun c_39 => ?_) (fun c_39 => ?_)
    · have h := h.1 c_39
      exact kX4_number_B47 hG O  h
    · have h := h.2 c_39
      refine fr_aload_n (pc := 42) O 0 dX4_number_42 rfl rfl ?_
      refine fr_iconst (pc := 43) O (v := (3 : Int32)) dX4_number_43 (by decide) ?_
      refine fr_callVV (pc := 44) (st := []) O (tX4_fails X.2.1 hG  h) mt_X4_fails mv_X4_fails m_820 cl_X4 rfl (sM_0 hG) rfl (by decide) rfl (Nat.le_of_ble_eq_true rfl) dX4_number_44 (fun σ44 h => ?_)
      exact kX4_number_B47 hG O  h
def qX4_number (a1 : Int32) (a2 : Int32) (σ : Mem) (post : Int32 → Mem → Prop) : Prop := ((¬ (σ 0 6) = 0 → qX4_number_B20 a1 a2 post σ) ∧ ((σ 0 6) = 0 → (((σ 0 10) = (2 : Int32) → qX4_number_B20 a1 a2 post σ) ∧ (¬ (σ 0 10) = (2 : Int32) → (qX4_fails (2 : Int32) σ (fun σ17 => qX4_number_B20 a1 a2 post σ17))))))
set_option maxRecDepth 20000 in
theorem kX4_number {X : Cx} {G : Gw} (hG : fw_IsM G) (O : fw_Ok X G cX4_number 4 RX4 2 46 (some .int)) {a1 : Int32} {a2 : Int32}  {σ : Mem} {post : Int32 → Mem → Prop} (h : qX4_number a1 a2 σ post) : fw_At X G 4 (fw_QI X G post) 0 [(0, .ref (gad G 0)), (1, .int a1), (2, .int a2)] [] σ := by
  unfold qX4_number at h
  refine fr_aload_n (pc := 0) O 0 dX4_number_0 rfl rfl ?_
  refine fr_get (pc := 1) (k := 6) (v := .int (σ 0 6)) O cl_X4 m_719 (sM_0 hG) (by decide) rfl rfl dX4_number_1 ?_
  refine fr_if_ne (pc := 4) (tgt := 20) O dX4_number_4 (by decide) (fun c_4 => ?_) (fun c_4 => ?_)
  · have h := h.1 c_4
    exact kX4_number_B20 hG O  h
  · have h := h.2 c_4
    refine fr_aload_n (pc := 7) O 0 dX4_number_7 rfl rfl ?_
    refine fr_get (pc := 8) (k := 10) (v := .int (σ 0 10)) O cl_X4 m_723 (sM_0 hG) (by decide) rfl rfl dX4_number_8 ?_
    refine fr_iconst (pc := 11) O (v := (2 : Int32)) dX4_number_11 (by decide) ?_
    refine fr_icmp_eq (pc := 12) (tgt := 20) O dX4_number_12 (by decide) (fun c_12 => ?_) (fun c_12 => ?_)
    · have h := h.1 c_12
      exact kX4_number_B20 hG O  h
    · have h := h.2 c_12
      refine fr_aload_n (pc := 15) O 0 dX4_number_15 rfl rfl ?_
      refine fr_iconst (pc := 16) O (v := (2 : Int32)) dX4_number_16 (by decide) ?_
      refine fr_callVV (pc := 17) (st := []) O (tX4_fails X.2.1 hG  h) mt_X4_fails mv_X4_fails m_820 cl_X4 rfl (sM_0 hG) rfl (by decide) rfl (Nat.le_of_ble_eq_true rfl) dX4_number_17 (fun σ17 h => ?_)
      exact kX4_number_B20 hG O  h
theorem tX4_number (l : Launch) {G : Gw} (hG : fw_IsM G) {a1 : Int32} {a2 : Int32}  {σ : Mem} {post : Int32 → Mem → Prop} (h : qX4_number a1 a2 σ post) : fw_CI l G yX4_number cX4_number 4 .int 2 46 [.ref (gad G 0), .int a1, .int a2] σ post := fw_ofI (sok_M hG) (by decide) (Nat.le_of_ble_eq_true rfl) (fun X O => kX4_number hG O  h)
def qX4_readMore_B141 (a1 : Int32) (post : Mem → Prop) (σ : Mem) : Prop := post σ
set_option maxRecDepth 20000 in
theorem kX4_readMore_B141 {X : Cx} {G : Gw} (hG : fw_IsM G) (O : fw_Ok X G cX4_readMore 3 RX4 3 69 none) {a1 : Int32} {post : Mem → Prop}    {σ : Mem} (h : qX4_readMore_B141 a1 post σ) : fw_At X G 3 (fw_QV X G post) 141 [(0, .ref (gad G 0)), (1, .int a1)] [] σ := by
  unfold qX4_readMore_B141 at h
  exact fr_vret (pc := 141) O dX4_readMore_141 h
def qX4_readMore_B125 (a1 : Int32) (post : Mem → Prop) (s1 : Int32) (s2 : Int32) (s4 : Int32) (s5 : Int32) (σ : Mem) : Prop := (qX4_number s4 s5 σ (fun r125 σ125 => (vp_in s1 39 ∧ (∀ σ129 : Mem, σ129 = up2 σ125 2 s1.toNatClampNeg (s2 + r125) → (vp_in (33 : Int32) 39 ∧ (∀ σ140 : Mem, σ140 = up2 σ129 2 (33 : Int32).toNatClampNeg ((σ129 2 (33 : Int32).toNatClampNeg) + (1 : Int32)) → qX4_readMore_B141 a1 post σ140))))))
set_option maxRecDepth 20000 in
theorem kX4_readMore_B125 {X : Cx} {G : Gw} (hG : fw_IsM G) (O : fw_Ok X G cX4_readMore 3 RX4 3 69 none) {a1 : Int32} {post : Mem → Prop}   {s1 : Int32} {s2 : Int32} {s4 : Int32} {s5 : Int32} {σ : Mem} (h : qX4_readMore_B125 a1 post s1 s2 s4 s5 σ) : fw_At X G 3 (fw_QV X G post) 125 [(0, .ref (gad G 0)), (1, .int a1)] [.int s5, .int s4, .ref (gad G 0), .int s2, .int s1, .ref (gad G 2)] σ := by
  unfold qX4_readMore_B125 at h
  refine fr_callVI (pc := 125) (st := [.int s2, .int s1, .ref (gad G 2)]) O (tX4_number X.2.1 hG  h) mt_X4_number mv_X4_number m_837 cl_X4 rfl (sM_0 hG) rfl (by decide) rfl (Nat.le_of_ble_eq_true rfl) dX4_readMore_125 (fun r125 σ125 h => ?_)
  refine fr_iadd (pc := 128) O dX4_readMore_128 ?_
  have hi_129 := h.1
  have h := h.2
  refine fr_iast (pc := 129) O (sM_2 hG) hi_129 dX4_readMore_129 (fun σ129 e_σ129 => ?_)
  have h := h σ129 e_σ129
  refine fr_aload_n (pc := 130) O 0 dX4_readMore_130 rfl rfl ?_
  refine fr_get (pc := 131) (k := 1) (v := .ref (gad G 2)) O cl_X4 m_714 (sM_0 hG) (by decide) rfl rfl dX4_readMore_131 ?_
  refine fr_bipush (pc := 134) O (v := (33 : Int32)) dX4_readMore_134 (by decide) ?_
  refine fr_dup2 (pc := 136) O dX4_readMore_136 rfl rfl ?_
  have hi_137 := h.1
  have h := h.2
  refine fr_iald (pc := 137) O (sM_2 hG) hi_137 dX4_readMore_137 ?_
  refine fr_iconst (pc := 138) O (v := (1 : Int32)) dX4_readMore_138 (by decide) ?_
  refine fr_iadd (pc := 139) O dX4_readMore_139 ?_
  refine fr_iast (pc := 140) O (sM_2 hG) hi_137 dX4_readMore_140 (fun σ140 e_σ140 => ?_)
  have h := h σ140 e_σ140
  exact kX4_readMore_B141 hG O  h
def qX4_readMore (a1 : Int32) (σ : Mem) (post : Mem → Prop) : Prop := (((3 : Int32) < a1 → ((¬ a1 = (4 : Int32) → (vp_in (33 : Int32) 39 ∧ (∀ y2_96 : Int32, y2_96 = σ 2 (33 : Int32).toNatClampNeg → ((¬ a1 = (7 : Int32) → qX4_readMore_B125 a1 post ((17 : Int32) + y2_96) ((100 : Int32) * (a1 - (5 : Int32))) (0 : Int32) (99 : Int32) σ) ∧ (a1 = (7 : Int32) → qX4_readMore_B125 a1 post ((17 : Int32) + y2_96) ((100 : Int32) * (a1 - (5 : Int32))) (0 : Int32) (3 : Int32) σ))))) ∧ (a1 = (4 : Int32) → (qX4_number (1 : Int32) (20 : Int32) σ (fun r80 σ80 => (vp_in (34 : Int32) 39 ∧ (∀ σ85 : Mem, σ85 = up2 σ80 2 (34 : Int32).toNatClampNeg (r80 - (5 : Int32)) → qX4_readMore_B141 a1 post σ85))))))) ∧ (¬ (3 : Int32) < a1 → (vp_in (16 : Int32) 39 ∧ (∀ y2_12 : Int32, y2_12 = σ 2 (16 : Int32).toNatClampNeg → (vp_in y2_12 39 ∧ (∀ σ19 : Mem, σ19 = up2 σ 2 y2_12.toNatClampNeg a1 → (qX4_number (1 : Int32) (20 : Int32) σ19 (fun r31 σ31 => (vp_in ((4 : Int32) + y2_12) 39 ∧ (∀ σ34 : Mem, σ34 = up2 σ31 2 ((4 : Int32) + y2_12).toNatClampNeg r31 → (qX4_number (0 : Int32) (9 : Int32) σ34 (fun r47 σ47 => (vp_in ((8 : Int32) + y2_12) 39 ∧ (∀ σ50 : Mem, σ50 = up2 σ47 2 ((8 : Int32) + y2_12).toNatClampNeg r47 → (∀ σ61 : Mem, σ61 = up2 σ50 2 (16 : Int32).toNatClampNeg ((σ50 2 (16 : Int32).toNatClampNeg) + (1 : Int32)) → qX4_readMore_B141 a1 post σ61)))))))))))))))
set_option maxRecDepth 20000 in
theorem kX4_readMore {X : Cx} {G : Gw} (hG : fw_IsM G) (O : fw_Ok X G cX4_readMore 3 RX4 3 69 none) {a1 : Int32}  {σ : Mem} {post : Mem → Prop} (h : qX4_readMore a1 σ post) : fw_At X G 3 (fw_QV X G post) 0 [(0, .ref (gad G 0)), (1, .int a1)] [] σ := by
  unfold qX4_readMore at h
  refine fr_iload_n (pc := 0) O 1 dX4_readMore_0 rfl rfl ?_
  refine fr_iconst (pc := 1) O (v := (3 : Int32)) dX4_readMore_1 (by decide) ?_
  refine fr_icmp_gt (pc := 2) (tgt := 65) O dX4_readMore_2 (by decide) (fun c_2 => ?_) (fun c_2 => ?_)
  · have h := h.1 c_2
    refine fr_iload_n (pc := 65) O 1 dX4_readMore_65 rfl rfl ?_
    refine fr_iconst (pc := 66) O (v := (4 : Int32)) dX4_readMore_66 (by decide) ?_
    refine fr_icmp_ne (pc := 67) (tgt := 89) O dX4_readMore_67 (by decide) (fun c_67 => ?_) (fun c_67 => ?_)
    · have h := h.1 c_67
      refine fr_aload_n (pc := 89) O 0 dX4_readMore_89 rfl rfl ?_
      refine fr_get (pc := 90) (k := 1) (v := .ref (gad G 2)) O cl_X4 m_714 (sM_0 hG) (by decide) rfl rfl dX4_readMore_90 ?_
      refine fr_bipush (pc := 93) O (v := (33 : Int32)) dX4_readMore_93 (by decide) ?_
      have hi_95 := h.1
      have h := h.2
      refine fr_iald (pc := 95) O (sM_2 hG) hi_95 dX4_readMore_95 ?_
      refine fr_nm (fun y2_96 e_y2_96 => ?_)
      have h := h y2_96 e_y2_96
      refine fr_istore_n (pc := 96) O [1, 2, 0] (lv' := [(0, .ref (gad G 0)), (1, .int a1), (2, .int y2_96)]) dX4_readMore_96 rfl (by decide) rfl ?_
      refine fr_aload_n (pc := 97) O 0 dX4_readMore_97 rfl rfl ?_
      refine fr_get (pc := 98) (k := 1) (v := .ref (gad G 2)) O cl_X4 m_714 (sM_0 hG) (by decide) rfl rfl dX4_readMore_98 ?_
      refine fr_bipush (pc := 101) O (v := (17 : Int32)) dX4_readMore_101 (by decide) ?_
      refine fr_iload_n (pc := 103) O 2 dX4_readMore_103 rfl rfl ?_
      refine fr_iadd (pc := 104) O dX4_readMore_104 ?_
      refine fr_bipush (pc := 105) O (v := (100 : Int32)) dX4_readMore_105 (by decide) ?_
      refine fr_iload_n (pc := 107) O 1 dX4_readMore_107 rfl rfl ?_
      refine fr_iconst (pc := 108) O (v := (5 : Int32)) dX4_readMore_108 (by decide) ?_
      refine fr_isub (pc := 109) O dX4_readMore_109 ?_
      refine fr_imul (pc := 110) O dX4_readMore_110 ?_
      refine fr_aload_n (pc := 111) O 0 dX4_readMore_111 rfl rfl ?_
      refine fr_iconst (pc := 112) O (v := (0 : Int32)) dX4_readMore_112 (by decide) ?_
      refine fr_iload_n (pc := 113) O 1 dX4_readMore_113 rfl rfl ?_
      refine fr_bipush (pc := 114) O (v := (7 : Int32)) dX4_readMore_114 (by decide) ?_
      refine fr_icmp_ne (pc := 116) (tgt := 123) O dX4_readMore_116 (by decide) (fun c_116 => ?_) (fun c_116 => ?_)
      · have h := h.1 c_116
        refine fr_bipush (pc := 123) O (v := (99 : Int32)) dX4_readMore_123 (by decide) ?_
        refine fw_sub (lv' := [(0, .ref (gad G 0)), (1, .int a1)]) [0, 1] rfl ?_
        exact kX4_readMore_B125 hG O  h
      · have h := h.2 c_116
        refine fr_iconst (pc := 119) O (v := (3 : Int32)) dX4_readMore_119 (by decide) ?_
        refine fr_goto (pc := 120) (tgt := 125) O dX4_readMore_120 (by decide) ?_
        refine fw_sub (lv' := [(0, .ref (gad G 0)), (1, .int a1)]) [0, 1] rfl ?_
        exact kX4_readMore_B125 hG O  h
    · have h := h.2 c_67
      refine fr_aload_n (pc := 70) O 0 dX4_readMore_70 rfl rfl ?_
      refine fr_get (pc := 71) (k := 1) (v := .ref (gad G 2)) O cl_X4 m_714 (sM_0 hG) (by decide) rfl rfl dX4_readMore_71 ?_
      refine fr_bipush (pc := 74) O (v := (34 : Int32)) dX4_readMore_74 (by decide) ?_
      refine fr_aload_n (pc := 76) O 0 dX4_readMore_76 rfl rfl ?_
      refine fr_iconst (pc := 77) O (v := (1 : Int32)) dX4_readMore_77 (by decide) ?_
      refine fr_bipush (pc := 78) O (v := (20 : Int32)) dX4_readMore_78 (by decide) ?_
      refine fr_callVI (pc := 80) (st := [.int (34 : Int32), .ref (gad G 2)]) O (tX4_number X.2.1 hG  h) mt_X4_number mv_X4_number m_837 cl_X4 rfl (sM_0 hG) rfl (by decide) rfl (Nat.le_of_ble_eq_true rfl) dX4_readMore_80 (fun r80 σ80 h => ?_)
      refine fr_iconst (pc := 83) O (v := (5 : Int32)) dX4_readMore_83 (by decide) ?_
      refine fr_isub (pc := 84) O dX4_readMore_84 ?_
      have hi_85 := h.1
      have h := h.2
      refine fr_iast (pc := 85) O (sM_2 hG) hi_85 dX4_readMore_85 (fun σ85 e_σ85 => ?_)
      have h := h σ85 e_σ85
      refine fr_goto (pc := 86) (tgt := 141) O dX4_readMore_86 (by decide) ?_
      exact kX4_readMore_B141 hG O  h
  · have h := h.2 c_2
    refine fr_aload_n (pc := 5) O 0 dX4_readMore_5 rfl rfl ?_
    refine fr_get (pc := 6) (k := 1) (v := .ref (gad G 2)) O cl_X4 m_714 (sM_0 hG) (by decide) rfl rfl dX4_readMore_6 ?_
    refine fr_bipush (pc := 9) O (v := (16 : Int32)) dX4_readMore_9 (by decide) ?_
    have hi_11 := h.1
    have h := h.2
    refine fr_iald (pc := 11) O (sM_2 hG) hi_11 dX4_readMore_11 ?_
    refine fr_nm (fun y2_12 e_y2_12 => ?_)
    have h := h y2_12 e_y2_12
    refine fr_istore_n (pc := 12) O [1, 2, 0] (lv' := [(0, .ref (gad G 0)), (1, .int a1), (2, .int y2_12)]) dX4_readMore_12 rfl (by decide) rfl ?_
    refine fr_aload_n (pc := 13) O 0 dX4_readMore_13 rfl rfl ?_
    refine fr_get (pc := 14) (k := 1) (v := .ref (gad G 2)) O cl_X4 m_714 (sM_0 hG) (by decide) rfl rfl dX4_readMore_14 ?_
    refine fr_iload_n (pc := 17) O 2 dX4_readMore_17 rfl rfl ?_
    refine fr_iload_n (pc := 18) O 1 dX4_readMore_18 rfl rfl ?_
    have hi_19 := h.1
    have h := h.2
    refine fr_iast (pc := 19) O (sM_2 hG) hi_19 dX4_readMore_19 (fun σ19 e_σ19 => ?_)
    have h := h σ19 e_σ19
    refine fr_aload_n (pc := 20) O 0 dX4_readMore_20 rfl rfl ?_
    refine fr_get (pc := 21) (k := 1) (v := .ref (gad G 2)) O cl_X4 m_714 (sM_0 hG) (by decide) rfl rfl dX4_readMore_21 ?_
    refine fr_iconst (pc := 24) O (v := (4 : Int32)) dX4_readMore_24 (by decide) ?_
    refine fr_iload_n (pc := 25) O 2 dX4_readMore_25 rfl rfl ?_
    refine fr_iadd (pc := 26) O dX4_readMore_26 ?_
    refine fr_aload_n (pc := 27) O 0 dX4_readMore_27 rfl rfl ?_
    refine fr_iconst (pc := 28) O (v := (1 : Int32)) dX4_readMore_28 (by decide) ?_
    refine fr_bipush (pc := 29) O (v := (20 : Int32)) dX4_readMore_29 (by decide) ?_
    refine fr_callVI (pc := 31) (st := [.int ((4 : Int32) + y2_12), .ref (gad G 2)]) O (tX4_number X.2.1 hG  h) mt_X4_number mv_X4_number m_837 cl_X4 rfl (sM_0 hG) rfl (by decide) rfl (Nat.le_of_ble_eq_true rfl) dX4_readMore_31 (fun r31 σ31 h => ?_)
    have hi_34 := h.1
    have h := h.2
    refine fr_iast (pc := 34) O (sM_2 hG) hi_34 dX4_readMore_34 (fun σ34 e_σ34 => ?_)
    have h := h σ34 e_σ34
    refine fr_aload_n (pc := 35) O 0 dX4_readMore_35 rfl rfl ?_
    refine fr_get (pc := 36) (k := 1) (v := .ref (gad G 2)) O cl_X4 m_714 (sM_0 hG) (by decide) rfl rfl dX4_readMore_36 ?_
    refine fr_bipush (pc := 39) O (v := (8 : Int32)) dX4_readMore_39 (by decide) ?_
    refine fr_iload_n (pc := 41) O 2 dX4_readMore_41 rfl rfl ?_
    refine fr_iadd (pc := 42) O dX4_readMore_42 ?_
    refine fr_aload_n (pc := 43) O 0 dX4_readMore_43 rfl rfl ?_
    refine fr_iconst (pc := 44) O (v := (0 : Int32)) dX4_readMore_44 (by decide) ?_
    refine fr_bipush (pc := 45) O (v := (9 : Int32)) dX4_readMore_45 (by decide) ?_
    refine fr_callVI (pc := 47) (st := [.int ((8 : Int32) + y2_12), .ref (gad G 2)]) O (tX4_number X.2.1 hG  h) mt_X4_number mv_X4_number m_837 cl_X4 rfl (sM_0 hG) rfl (by decide) rfl (Nat.le_of_ble_eq_true rfl) dX4_readMore_47 (fun r47 σ47 h => ?_)
    have hi_50 := h.1
    have h := h.2
    refine fr_iast (pc := 50) O (sM_2 hG) hi_50 dX4_readMore_50 (fun σ50 e_σ50 => ?_)
    have h := h σ50 e_σ50
    refine fr_aload_n (pc := 51) O 0 dX4_readMore_51 rfl rfl ?_
    refine fr_get (pc := 52) (k := 1) (v := .ref (gad G 2)) O cl_X4 m_714 (sM_0 hG) (by decide) rfl rfl dX4_readMore_52 ?_
    refine fr_bipush (pc := 55) O (v := (16 : Int32)) dX4_readMore_55 (by decide) ?_
    refine fr_dup2 (pc := 57) O dX4_readMore_57 rfl rfl ?_
    refine fr_iald (pc := 58) O (sM_2 hG) hi_11 dX4_readMore_58 ?_
    refine fr_iconst (pc := 59) O (v := (1 : Int32)) dX4_readMore_59 (by decide) ?_
    refine fr_iadd (pc := 60) O dX4_readMore_60 ?_
    refine fr_iast (pc := 61) O (sM_2 hG) hi_11 dX4_readMore_61 (fun σ61 e_σ61 => ?_)
    have h := h σ61 e_σ61
    refine fr_goto (pc := 62) (tgt := 141) O dX4_readMore_62 (by decide) ?_
    refine fw_sub (lv' := [(0, .ref (gad G 0)), (1, .int a1)]) [0, 1] rfl ?_
    exact kX4_readMore_B141 hG O  h
theorem tX4_readMore (l : Launch) {G : Gw} (hG : fw_IsM G) {a1 : Int32}  {σ : Mem} {post : Mem → Prop} (h : qX4_readMore a1 σ post) : fw_CV l G yX4_readMore cX4_readMore 3 3 69 [.ref (gad G 0), .int a1] σ post := fw_ofV (sok_M hG) (by decide) (Nat.le_of_ble_eq_true rfl) (fun X O => kX4_readMore hG O  h)
def qX4_readLine_B136 (post : Mem → Prop) (σ : Mem) : Prop := (qX4_readsOn σ (fun σ137 => post σ137))
set_option maxRecDepth 20000 in
theorem kX4_readLine_B136 {X : Cx} {G : Gw} (hG : fw_IsM G) (O : fw_Ok X G cX4_readLine 2 RX4 4 91 none)  {post : Mem → Prop}    {σ : Mem} (h : qX4_readLine_B136 post σ) : fw_At X G 2 (fw_QV X G post) 136 [(0, .ref (gad G 0))] [] σ := by
  unfold qX4_readLine_B136 at h
  refine fr_aload_n (pc := 136) O 0 dX4_readLine_136 rfl rfl ?_
  refine fr_callVV (pc := 137) (st := []) O (tX4_readsOn X.2.1 hG  h) mt_X4_readsOn mv_X4_readsOn m_808 cl_X4 rfl (sM_0 hG) rfl (by decide) rfl (Nat.le_of_ble_eq_true rfl) dX4_readLine_137 (fun σ137 h => ?_)
  exact fr_vret (pc := 140) O dX4_readLine_140 h
def qX4_readLine_B96 (post : Mem → Prop) (x1 : Int32) (s1 : Int32) (σ : Mem) : Prop := (isB s1 ∧ (∀ σ96 : Mem, σ96 = up2 σ 0 2 s1 → (qX4_readsOn σ96 (fun σ100 => (((σ100 0 6) ≤ 0 → (qX4_readMore x1 σ100 (fun σ113 => ((¬ (σ113 0 6) = 0 → qX4_readLine_B136 post σ113) ∧ ((σ113 0 6) = 0 → (((σ113 0 10) = (3 : Int32) → qX4_readLine_B136 post σ113) ∧ (¬ (σ113 0 10) = (3 : Int32) → (qX4_fails (2 : Int32) σ113 (fun σ133 => qX4_readLine_B136 post σ133))))))))) ∧ (¬ (σ100 0 6) ≤ 0 → post σ100))))))
set_option maxRecDepth 20000 in
theorem kX4_readLine_B96 {X : Cx} {G : Gw} (hG : fw_IsM G) (O : fw_Ok X G cX4_readLine 2 RX4 4 91 none)  {post : Mem → Prop}   {x1 : Int32} {s1 : Int32} {σ : Mem} (h : qX4_readLine_B96 post x1 s1 σ) : fw_At X G 2 (fw_QV X G post) 96 [(0, .ref (gad G 0)), (1, .int x1)] [.int s1, .ref (gad G 0)] σ := by
  unfold qX4_readLine_B96 at h
  refine fr_put (pc := 96) (k := 2) O cl_X4 m_715 (sM_0 hG) (by decide) rfl rfl h.1.nar h.1.fit (fun _ => Nat.le_of_ble_eq_true rfl) (fun _ => rfl) dX4_readLine_96 (fun σ96 e_σ96 => ?_)
  have h := h.2
  have h := h σ96 e_σ96
  refine fr_aload_n (pc := 99) O 0 dX4_readLine_99 rfl rfl ?_
  refine fr_callVV (pc := 100) (st := []) O (tX4_readsOn X.2.1 hG  h) mt_X4_readsOn mv_X4_readsOn m_808 cl_X4 rfl (sM_0 hG) rfl (by decide) rfl (Nat.le_of_ble_eq_true rfl) dX4_readLine_100 (fun σ100 h => ?_)
  refine fr_aload_n (pc := 103) O 0 dX4_readLine_103 rfl rfl ?_
  refine fr_get (pc := 104) (k := 6) (v := .int (σ100 0 6)) O cl_X4 m_719 (sM_0 hG) (by decide) rfl rfl dX4_readLine_104 ?_
  refine fr_if_le (pc := 107) (tgt := 111) O dX4_readLine_107 (by decide) (fun c_107 => ?_) (fun c_107 => ?_)
  · have h := h.1 c_107
    refine fr_aload_n (pc := 111) O 0 dX4_readLine_111 rfl rfl ?_
    refine fr_iload_n (pc := 112) O 1 dX4_readLine_112 rfl rfl ?_
    refine fr_callVV (pc := 113) (st := []) O (tX4_readMore X.2.1 hG  h) mt_X4_readMore mv_X4_readMore m_833 cl_X4 rfl (sM_0 hG) rfl (by decide) rfl (Nat.le_of_ble_eq_true rfl) dX4_readLine_113 (fun σ113 h => ?_)
    refine fr_aload_n (pc := 116) O 0 dX4_readLine_116 rfl rfl ?_
    refine fr_get (pc := 117) (k := 6) (v := .int (σ113 0 6)) O cl_X4 m_719 (sM_0 hG) (by decide) rfl rfl dX4_readLine_117 ?_
    refine fr_if_ne (pc := 120) (tgt := 136) O dX4_readLine_120 (by decide) (fun c_120 => ?_) (fun c_120 => ?_)
    · have h := h.1 c_120
      refine fw_sub (lv' := [(0, .ref (gad G 0))]) [0] rfl ?_
      exact kX4_readLine_B136 hG O  h
    · have h := h.2 c_120
      refine fr_aload_n (pc := 123) O 0 dX4_readLine_123 rfl rfl ?_
      refine fr_get (pc := 124) (k := 10) (v := .int (σ113 0 10)) O cl_X4 m_723 (sM_0 hG) (by decide) rfl rfl dX4_readLine_124 ?_
      refine fr_iconst (pc := 127) O (v := (3 : Int32)) dX4_readLine_127 (by decide) ?_
      refine fr_icmp_eq (pc := 128) (tgt := 136) O dX4_readLine_128 (by decide) (fun c_128 => ?_) (fun c_128 => ?_)
      · have h := h.1 c_128
        refine fw_sub (lv' := [(0, .ref (gad G 0))]) [0] rfl ?_
        exact kX4_readLine_B136 hG O  h
      · have h := h.2 c_128
        refine fr_aload_n (pc := 131) O 0 dX4_readLine_131 rfl rfl ?_
        refine fr_iconst (pc := 132) O (v := (2 : Int32)) dX4_readLine_132 (by decide) ?_
        refine fr_callVV (pc := 133) (st := []) O (tX4_fails X.2.1 hG  h) mt_X4_fails mv_X4_fails m_820 cl_X4 rfl (sM_0 hG) rfl (by decide) rfl (Nat.le_of_ble_eq_true rfl) dX4_readLine_133 (fun σ133 h => ?_)
        refine fw_sub (lv' := [(0, .ref (gad G 0))]) [0] rfl ?_
        exact kX4_readLine_B136 hG O  h
  · have h := h.2 c_107
    exact fr_vret (pc := 110) O dX4_readLine_110 h
def qX4_readLine_B91 (post : Mem → Prop) (x1 : Int32) (σ : Mem) : Prop := qX4_readLine_B96 post x1 (1 : Int32) σ
set_option maxRecDepth 20000 in
theorem kX4_readLine_B91 {X : Cx} {G : Gw} (hG : fw_IsM G) (O : fw_Ok X G cX4_readLine 2 RX4 4 91 none)  {post : Mem → Prop}   {x1 : Int32} {σ : Mem} (h : qX4_readLine_B91 post x1 σ) : fw_At X G 2 (fw_QV X G post) 91 [(0, .ref (gad G 0)), (1, .int x1)] [.ref (gad G 0)] σ := by
  unfold qX4_readLine_B91 at h
  refine fr_iconst (pc := 91) O (v := (1 : Int32)) dX4_readLine_91 (by decide) ?_
  refine fr_goto (pc := 92) (tgt := 96) O dX4_readLine_92 (by decide) ?_
  exact kX4_readLine_B96 hG O  h
def qX4_readLine_B78 (post : Mem → Prop) (x1 : Int32) (σ : Mem) : Prop := ((¬ (σ 0 2) = 0 → qX4_readLine_B91 post x1 σ) ∧ ((σ 0 2) = 0 → ((¬ x1 = (4 : Int32) → qX4_readLine_B96 post x1 (0 : Int32) σ) ∧ (x1 = (4 : Int32) → qX4_readLine_B91 post x1 σ))))
set_option maxRecDepth 20000 in
theorem kX4_readLine_B78 {X : Cx} {G : Gw} (hG : fw_IsM G) (O : fw_Ok X G cX4_readLine 2 RX4 4 91 none)  {post : Mem → Prop}   {x1 : Int32} {σ : Mem} (h : qX4_readLine_B78 post x1 σ) : fw_At X G 2 (fw_QV X G post) 78 [(0, .ref (gad G 0)), (1, .int x1)] [] σ := by
  unfold qX4_readLine_B78 at h
  refine fr_aload_n (pc := 78) O 0 dX4_readLine_78 rfl rfl ?_
  refine fr_aload_n (pc := 79) O 0 dX4_readLine_79 rfl rfl ?_
  refine fr_get (pc := 80) (k := 2) (v := .int (σ 0 2)) O cl_X4 m_715 (sM_0 hG) (by decide) rfl rfl dX4_readLine_80 ?_
  refine fr_if_ne (pc := 83) (tgt := 91) O dX4_readLine_83 (by decide) (fun c_83 => ?_) (fun c_83 => ?_)
  · have h := h.1 c_83
    exact kX4_readLine_B91 hG O  h
  · have h := h.2 c_83
    refine fr_iload_n (pc := 86) O 1 dX4_readLine_86 rfl rfl ?_
    refine fr_iconst (pc := 87) O (v := (4 : Int32)) dX4_readLine_87 (by decide) ?_
    refine fr_icmp_ne (pc := 88) (tgt := 95) O dX4_readLine_88 (by decide) (fun c_88 => ?_) (fun c_88 => ?_)
    · have h := h.1 c_88
      refine fr_iconst (pc := 95) O (v := (0 : Int32)) dX4_readLine_95 (by decide) ?_
      exact kX4_readLine_B96 hG O  h
    · have h := h.2 c_88
      exact kX4_readLine_B91 hG O  h
def qX4_readLine_B61 (post : Mem → Prop) (x1 : Int32) (σ : Mem) : Prop := ((¬ x1 = (4 : Int32) → qX4_readLine_B78 post x1 σ) ∧ (x1 = (4 : Int32) → (((σ 0 2) = 0 → qX4_readLine_B78 post x1 σ) ∧ (¬ (σ 0 2) = 0 → (qX4_fails (4 : Int32) σ (fun σ75 => qX4_readLine_B78 post x1 σ75))))))
set_option maxRecDepth 20000 in
theorem kX4_readLine_B61 {X : Cx} {G : Gw} (hG : fw_IsM G) (O : fw_Ok X G cX4_readLine 2 RX4 4 91 none)  {post : Mem → Prop}   {x1 : Int32} {σ : Mem} (h : qX4_readLine_B61 post x1 σ) : fw_At X G 2 (fw_QV X G post) 61 [(0, .ref (gad G 0)), (1, .int x1)] [] σ := by
  unfold qX4_readLine_B61 at h
  refine fr_iload_n (pc := 61) O 1 dX4_readLine_61 rfl rfl ?_
  refine fr_iconst (pc := 62) O (v := (4 : Int32)) dX4_readLine_62 (by decide) ?_
  refine fr_icmp_ne (pc := 63) (tgt := 78) O dX4_readLine_63 (by decide) (fun c_63 => ?_) (fun c_63 => ?_)
  · have h := h.1 c_63
    exact kX4_readLine_B78 hG O  h
  · have h := h.2 c_63
    refine fr_aload_n (pc := 66) O 0 dX4_readLine_66 rfl rfl ?_
    refine fr_get (pc := 67) (k := 2) (v := .int (σ 0 2)) O cl_X4 m_715 (sM_0 hG) (by decide) rfl rfl dX4_readLine_67 ?_
    refine fr_if_eq (pc := 70) (tgt := 78) O dX4_readLine_70 (by decide) (fun c_70 => ?_) (fun c_70 => ?_)
    · have h := h.1 c_70
      exact kX4_readLine_B78 hG O  h
    · have h := h.2 c_70
      refine fr_aload_n (pc := 73) O 0 dX4_readLine_73 rfl rfl ?_
      refine fr_iconst (pc := 74) O (v := (4 : Int32)) dX4_readLine_74 (by decide) ?_
      refine fr_callVV (pc := 75) (st := []) O (tX4_fails X.2.1 hG  h) mt_X4_fails mv_X4_fails m_820 cl_X4 rfl (sM_0 hG) rfl (by decide) rfl (Nat.le_of_ble_eq_true rfl) dX4_readLine_75 (fun σ75 h => ?_)
      exact kX4_readLine_B78 hG O  h
def qX4_readLine_B56 (post : Mem → Prop) (x1 : Int32) (σ : Mem) : Prop := (qX4_fails (5 : Int32) σ (fun σ58 => qX4_readLine_B61 post x1 σ58))
set_option maxRecDepth 20000 in
theorem kX4_readLine_B56 {X : Cx} {G : Gw} (hG : fw_IsM G) (O : fw_Ok X G cX4_readLine 2 RX4 4 91 none)  {post : Mem → Prop}   {x1 : Int32} {σ : Mem} (h : qX4_readLine_B56 post x1 σ) : fw_At X G 2 (fw_QV X G post) 56 [(0, .ref (gad G 0)), (1, .int x1)] [] σ := by
  unfold qX4_readLine_B56 at h
  refine fr_aload_n (pc := 56) O 0 dX4_readLine_56 rfl rfl ?_
  refine fr_iconst (pc := 57) O (v := (5 : Int32)) dX4_readLine_57 (by decide) ?_
  refine fr_callVV (pc := 58) (st := []) O (tX4_fails X.2.1 hG  h) mt_X4_fails mv_X4_fails m_820 cl_X4 rfl (sM_0 hG) rfl (by decide) rfl (Nat.le_of_ble_eq_true rfl) dX4_readLine_58 (fun σ58 h => ?_)
  exact kX4_readLine_B61 hG O  h
def qX4_readLine_B39 (post : Mem → Prop) (x1 : Int32) (σ : Mem) : Prop := ((x1 < (5 : Int32) → qX4_readLine_B61 post x1 σ) ∧ (¬ x1 < (5 : Int32) → (vp_in (33 : Int32) 39 ∧ ((¬ (σ 2 (33 : Int32).toNatClampNeg) = (16 : Int32) → qX4_readLine_B61 post x1 σ) ∧ ((σ 2 (33 : Int32).toNatClampNeg) = (16 : Int32) → qX4_readLine_B56 post x1 σ)))))
set_option maxRecDepth 20000 in
theorem kX4_readLine_B39 {X : Cx} {G : Gw} (hG : fw_IsM G) (O : fw_Ok X G cX4_readLine 2 RX4 4 91 none)  {post : Mem → Prop}   {x1 : Int32} {σ : Mem} (h : qX4_readLine_B39 post x1 σ) : fw_At X G 2 (fw_QV X G post) 39 [(0, .ref (gad G 0)), (1, .int x1)] [] σ := by
  unfold qX4_readLine_B39 at h
  refine fr_iload_n (pc := 39) O 1 dX4_readLine_39 rfl rfl ?_
  refine fr_iconst (pc := 40) O (v := (5 : Int32)) dX4_readLine_40 (by decide) ?_
  refine fr_icmp_lt (pc := 41) (tgt := 61) O dX4_readLine_41 (by decide) (fun c_41 => ?_) (fun c_41 => ?_)
  · have h := h.1 c_41
    exact kX4_readLine_B61 hG O  h
  · have h := h.2 c_41
    refine fr_aload_n (pc := 44) O 0 dX4_readLine_44 rfl rfl ?_
    refine fr_get (pc := 45) (k := 1) (v := .ref (gad G 2)) O cl_X4 m_714 (sM_0 hG) (by decide) rfl rfl dX4_readLine_45 ?_
    refine fr_bipush (pc := 48) O (v := (33 : Int32)) dX4_readLine_48 (by decide) ?_
    have hi_50 := h.1
    have h := h.2
    refine fr_iald (pc := 50) O (sM_2 hG) hi_50 dX4_readLine_50 ?_
    refine fr_bipush (pc := 51) O (v := (16 : Int32)) dX4_readLine_51 (by decide) ?_
    refine fr_icmp_ne (pc := 53) (tgt := 61) O dX4_readLine_53 (by decide) (fun c_53 => ?_) (fun c_53 => ?_)
    · have h := h.1 c_53
      exact kX4_readLine_B61 hG O  h
    · have h := h.2 c_53
      exact kX4_readLine_B56 hG O  h
def qX4_readLine  (σ : Mem) (post : Mem → Prop) : Prop := (qX4_nameHere σ (fun r1 σ1 => (qX4_in r1.toInt64 (0 : Int64) (7 : Int64) σ1 (fun r11 σ11 => ((¬ r11 = 0 → (((3 : Int32) < r1 → qX4_readLine_B39 post r1 σ11) ∧ (¬ (3 : Int32) < r1 → (vp_in (16 : Int32) 39 ∧ (((σ11 2 (16 : Int32).toNatClampNeg) = (4 : Int32) → qX4_readLine_B56 post r1 σ11) ∧ (¬ (σ11 2 (16 : Int32).toNatClampNeg) = (4 : Int32) → qX4_readLine_B39 post r1 σ11)))))) ∧ (r11 = 0 → (qX4_fails (2 : Int32) σ11 (fun σ19 => post σ19))))))))
set_option maxRecDepth 20000 in
theorem kX4_readLine {X : Cx} {G : Gw} (hG : fw_IsM G) (O : fw_Ok X G cX4_readLine 2 RX4 4 91 none)   {σ : Mem} {post : Mem → Prop} (h : qX4_readLine  σ post) : fw_At X G 2 (fw_QV X G post) 0 [(0, .ref (gad G 0))] [] σ := by
  unfold qX4_readLine at h
  refine fr_aload_n (pc := 0) O 0 dX4_readLine_0 rfl rfl ?_
  refine fr_callVI (pc := 1) (st := []) O (tX4_nameHere X.2.1 hG  h) mt_X4_nameHere mv_X4_nameHere m_828 cl_X4 rfl (sM_0 hG) rfl (by decide) rfl (Nat.le_of_ble_eq_true rfl) dX4_readLine_1 (fun r1 σ1 h => ?_)
  refine fr_istore_n (pc := 4) O [1, 0] (lv' := [(0, .ref (gad G 0)), (1, .int r1)]) dX4_readLine_4 rfl (by decide) rfl ?_
  refine fr_iload_n (pc := 5) O 1 dX4_readLine_5 rfl rfl ?_
  refine fr_i2l (pc := 6) O dX4_readLine_6 ?_
  refine fr_lconst (pc := 7) O (v := (0 : Int64)) dX4_readLine_7 (by decide) ?_
  refine fr_ldc2 (pc := 8) O m_832 dX4_readLine_8 ?_
  refine fr_callSI (pc := 11) (st := []) O (tX4_in X.2.1 hG  h) mt_X4_in m_798 m_797 rfl (by decide) rfl (Nat.le_of_ble_eq_true rfl) dX4_readLine_11 (fun r11 σ11 h => ?_)
  refine fr_if_ne (pc := 14) (tgt := 23) O dX4_readLine_14 (by decide) (fun c_14 => ?_) (fun c_14 => ?_)
  · have h := h.1 c_14
    refine fr_iload_n (pc := 23) O 1 dX4_readLine_23 rfl rfl ?_
    refine fr_iconst (pc := 24) O (v := (3 : Int32)) dX4_readLine_24 (by decide) ?_
    refine fr_icmp_gt (pc := 25) (tgt := 39) O dX4_readLine_25 (by decide) (fun c_25 => ?_) (fun c_25 => ?_)
    · have h := h.1 c_25
      exact kX4_readLine_B39 hG O  h
    · have h := h.2 c_25
      refine fr_aload_n (pc := 28) O 0 dX4_readLine_28 rfl rfl ?_
      refine fr_get (pc := 29) (k := 1) (v := .ref (gad G 2)) O cl_X4 m_714 (sM_0 hG) (by decide) rfl rfl dX4_readLine_29 ?_
      refine fr_bipush (pc := 32) O (v := (16 : Int32)) dX4_readLine_32 (by decide) ?_
      have hi_34 := h.1
      have h := h.2
      refine fr_iald (pc := 34) O (sM_2 hG) hi_34 dX4_readLine_34 ?_
      refine fr_iconst (pc := 35) O (v := (4 : Int32)) dX4_readLine_35 (by decide) ?_
      refine fr_icmp_eq (pc := 36) (tgt := 56) O dX4_readLine_36 (by decide) (fun c_36 => ?_) (fun c_36 => ?_)
      · have h := h.1 c_36
        exact kX4_readLine_B56 hG O  h
      · have h := h.2 c_36
        exact kX4_readLine_B39 hG O  h
  · have h := h.2 c_14
    refine fr_aload_n (pc := 17) O 0 dX4_readLine_17 rfl rfl ?_
    refine fr_iconst (pc := 18) O (v := (2 : Int32)) dX4_readLine_18 (by decide) ?_
    refine fr_callVV (pc := 19) (st := []) O (tX4_fails X.2.1 hG  h) mt_X4_fails mv_X4_fails m_820 cl_X4 rfl (sM_0 hG) rfl (by decide) rfl (Nat.le_of_ble_eq_true rfl) dX4_readLine_19 (fun σ19 h => ?_)
    exact fr_vret (pc := 22) O dX4_readLine_22 h
theorem tX4_readLine (l : Launch) {G : Gw} (hG : fw_IsM G)   {σ : Mem} {post : Mem → Prop} (h : qX4_readLine  σ post) : fw_CV l G yX4_readLine cX4_readLine 2 4 91 [.ref (gad G 0)] σ post := fw_ofV (sok_M hG) (by decide) (Nat.le_of_ble_eq_true rfl) (fun X O => kX4_readLine hG O  h)
def qX4_text_L96 (post : Int32 → Mem → Prop) (k96 : Int32 → Int32 → Mem → Prop) (x1 : Int32) (x2 : Int32) (σ : Mem) : Prop := (((39 : Int32) ≤ x2 → (∀ σ122 : Mem, σ122 = up2 σ 0 19 (0 : Int32) → (vp_in (0 : Int32) 2 ∧ (∀ σ131 : Mem, σ131 = up2 σ122 8 (0 : Int32).toNatClampNeg (0 : Int32) → (vp_in (1 : Int32) 2 ∧ (∀ σ138 : Mem, σ138 = up2 σ131 8 (1 : Int32).toNatClampNeg (0 : Int32) → post x1 σ138)))))) ∧ (¬ (39 : Int32) ≤ x2 → (vp_in x2 39 ∧ (vp_in x2 234 ∧ (∀ σ113 : Mem, σ113 = up2 σ 1 x2.toNatClampNeg (σ 2 x2.toNatClampNeg) → (∀ y2_114 : Int32, y2_114 = x2 + (1 : Int32) → k96 x1 y2_114 σ113))))))
set_option maxRecDepth 20000 in
theorem kX4_text_L96 {X : Cx} {G : Gw} (hG : fw_IsM G) (O : fw_Ok X G cX4_text 3 RX4 5 112 (some .int))  {post : Int32 → Mem → Prop} {k96 : Int32 → Int32 → Mem → Prop}  (hk96 : ∀ (x1 : Int32) (x2 : Int32) (σ : Mem), k96 x1 x2 σ → fw_At X G 3 (fw_QI X G post) 96 [(0, .ref (gad G 0)), (1, .int x1), (2, .int x2)] [] σ) {x1 : Int32} {x2 : Int32} {σ : Mem} (h : qX4_text_L96 post k96 x1 x2 σ) : fw_At X G 3 (fw_QI X G post) 96 [(0, .ref (gad G 0)), (1, .int x1), (2, .int x2)] [] σ := by
  unfold qX4_text_L96 at h
  refine fr_iload_n (pc := 96) O 2 dX4_text_96 rfl rfl ?_
  refine fr_bipush (pc := 97) O (v := (39 : Int32)) dX4_text_97 (by decide) ?_
  refine fr_icmp_ge (pc := 99) (tgt := 120) O dX4_text_99 (by decide) (fun c_99 => ?_) (fun c_99 => ?_)
  · have h := h.1 c_99
    refine fr_aload_n (pc := 120) O 0 dX4_text_120 rfl rfl ?_
    refine fr_iconst (pc := 121) O (v := (0 : Int32)) dX4_text_121 (by decide) ?_
    refine fr_put (pc := 122) (k := 19) O cl_X4 m_732 (sM_0 hG) (by decide) rfl rfl rfl rfl (fun _ => Nat.le_of_ble_eq_true rfl) (fun _ => rfl) dX4_text_122 (fun σ122 e_σ122 => ?_)
    have h := h σ122 e_σ122
    refine fr_aload_n (pc := 125) O 0 dX4_text_125 rfl rfl ?_
    refine fr_get (pc := 126) (k := 21) (v := .ref (gad G 8)) O cl_X4 m_734 (sM_0 hG) (by decide) rfl rfl dX4_text_126 ?_
    refine fr_iconst (pc := 129) O (v := (0 : Int32)) dX4_text_129 (by decide) ?_
    refine fr_iconst (pc := 130) O (v := (0 : Int32)) dX4_text_130 (by decide) ?_
    have hi_131 := h.1
    have h := h.2
    refine fr_zast (pc := 131) O (sM_8 hG) hi_131 isB_0 dX4_text_131 (fun σ131 e_σ131 => ?_)
    have h := h σ131 e_σ131
    refine fr_aload_n (pc := 132) O 0 dX4_text_132 rfl rfl ?_
    refine fr_get (pc := 133) (k := 21) (v := .ref (gad G 8)) O cl_X4 m_734 (sM_0 hG) (by decide) rfl rfl dX4_text_133 ?_
    refine fr_iconst (pc := 136) O (v := (1 : Int32)) dX4_text_136 (by decide) ?_
    refine fr_iconst (pc := 137) O (v := (0 : Int32)) dX4_text_137 (by decide) ?_
    have hi_138 := h.1
    have h := h.2
    refine fr_zast (pc := 138) O (sM_8 hG) hi_138 isB_0 dX4_text_138 (fun σ138 e_σ138 => ?_)
    have h := h σ138 e_σ138
    refine fr_iload_n (pc := 139) O 1 dX4_text_139 rfl rfl ?_
    exact fr_iret (pc := 140) O dX4_text_140 h
  · have h := h.2 c_99
    refine fr_aload_n (pc := 102) O 0 dX4_text_102 rfl rfl ?_
    refine fr_get (pc := 103) (k := 0) (v := .ref (gad G 1)) O cl_X4 m_713 (sM_0 hG) (by decide) rfl rfl dX4_text_103 ?_
    refine fr_iload_n (pc := 106) O 2 dX4_text_106 rfl rfl ?_
    refine fr_aload_n (pc := 107) O 0 dX4_text_107 rfl rfl ?_
    refine fr_get (pc := 108) (k := 1) (v := .ref (gad G 2)) O cl_X4 m_714 (sM_0 hG) (by decide) rfl rfl dX4_text_108 ?_
    refine fr_iload_n (pc := 111) O 2 dX4_text_111 rfl rfl ?_
    have hi_112 := h.1
    have h := h.2
    refine fr_iald (pc := 112) O (sM_2 hG) hi_112 dX4_text_112 ?_
    have hi_113 := h.1
    have h := h.2
    refine fr_iast (pc := 113) O (sM_1 hG) hi_113 dX4_text_113 (fun σ113 e_σ113 => ?_)
    have h := h σ113 e_σ113
    refine fr_iinc (pc := 114) O 2 [1, 2, 0] (w := (1 : Int32)) (lvF := fun y2_114 => [(0, .ref (gad G 0)), (1, .int x1), (2, .int y2_114)]) dX4_text_114 rfl (by decide) (by decide) (fun _ => rfl) (fun y2_114 e_y2_114 => ?_)
    have h := h y2_114 e_y2_114
    refine fr_goto (pc := 117) (tgt := 96) O dX4_text_117 (by decide) ?_
    exact hk96 _ _ _ h
set_option maxRecDepth 20000 in
theorem kX4_text_L96w {X : Cx} {G : Gw} (hG : fw_IsM G) (O : fw_Ok X G cX4_text 3 RX4 5 112 (some .int))  {post : Int32 → Mem → Prop}   {n9 : Nat} {x1 : Int32} {x2 : Int32} {σ : Mem} (h : it2 (qX4_text_L96 post) n9 x1 x2 σ) : fw_At X G 3 (fw_QI X G post) 96 [(0, .ref (gad G 0)), (1, .int x1), (2, .int x2)] [] σ :=
  it2_walk (T := fun x1 x2 σ => fw_At X G 3 (fw_QI X G post) 96 [(0, .ref (gad G 0)), (1, .int x1), (2, .int x2)] [] σ) (fun k96 hk96 x1 x2 σ h => kX4_text_L96 hG O hk96 h) n9 x1 x2 σ h
def qX4_text_B66 (post : Int32 → Mem → Prop) (x1 : Int32) (σ : Mem) : Prop := (∀ σ68 : Mem, σ68 = up2 σ 0 4 (0 : Int32) → (∀ σ76 : Mem, σ76 = up2 σ68 0 5 (σ68 0 6) → (((σ76 0 6) ≤ 0 → ∃ n9, it2 (qX4_text_L96 post) n9 x1 (0 : Int32) σ76) ∧ (¬ (σ76 0 6) ≤ 0 → post ((-10 : Int32) - (σ76 0 7)) σ76))))
set_option maxRecDepth 20000 in
theorem kX4_text_B66 {X : Cx} {G : Gw} (hG : fw_IsM G) (O : fw_Ok X G cX4_text 3 RX4 5 112 (some .int))  {post : Int32 → Mem → Prop}   {x1 : Int32} {σ : Mem} (h : qX4_text_B66 post x1 σ) : fw_At X G 3 (fw_QI X G post) 66 [(0, .ref (gad G 0)), (1, .int x1)] [] σ := by
  unfold qX4_text_B66 at h
  refine fr_aload_n (pc := 66) O 0 dX4_text_66 rfl rfl ?_
  refine fr_iconst (pc := 67) O (v := (0 : Int32)) dX4_text_67 (by decide) ?_
  refine fr_put (pc := 68) (k := 4) O cl_X4 m_717 (sM_0 hG) (by decide) rfl rfl rfl rfl (fun _ => Nat.le_of_ble_eq_true rfl) (fun _ => rfl) dX4_text_68 (fun σ68 e_σ68 => ?_)
  have h := h σ68 e_σ68
  refine fr_aload_n (pc := 71) O 0 dX4_text_71 rfl rfl ?_
  refine fr_aload_n (pc := 72) O 0 dX4_text_72 rfl rfl ?_
  refine fr_get (pc := 73) (k := 6) (v := .int (σ68 0 6)) O cl_X4 m_719 (sM_0 hG) (by decide) rfl rfl dX4_text_73 ?_
  refine fr_put (pc := 76) (k := 5) O cl_X4 m_718 (sM_0 hG) (by decide) rfl rfl rfl rfl (fun _ => Nat.le_of_ble_eq_true rfl) (fun _ => rfl) dX4_text_76 (fun σ76 e_σ76 => ?_)
  have h := h σ76 e_σ76
  refine fr_aload_n (pc := 79) O 0 dX4_text_79 rfl rfl ?_
  refine fr_get (pc := 80) (k := 6) (v := .int (σ76 0 6)) O cl_X4 m_719 (sM_0 hG) (by decide) rfl rfl dX4_text_80 ?_
  refine fr_if_le (pc := 83) (tgt := 94) O dX4_text_83 (by decide) (fun c_83 => ?_) (fun c_83 => ?_)
  · have h := h.1 c_83
    refine fr_iconst (pc := 94) O (v := (0 : Int32)) dX4_text_94 (by decide) ?_
    refine fr_istore_n (pc := 95) O [1, 2, 0] (lv' := [(0, .ref (gad G 0)), (1, .int x1), (2, .int (0 : Int32))]) dX4_text_95 rfl (by decide) rfl ?_
    obtain ⟨n9, h⟩ := h
    exact kX4_text_L96w hG O  h
  · have h := h.2 c_83
    refine fr_bipush (pc := 86) O (v := (-10 : Int32)) dX4_text_86 (by decide) ?_
    refine fr_aload_n (pc := 88) O 0 dX4_text_88 rfl rfl ?_
    refine fr_get (pc := 89) (k := 7) (v := .int (σ76 0 7)) O cl_X4 m_720 (sM_0 hG) (by decide) rfl rfl dX4_text_89 ?_
    refine fr_isub (pc := 92) O dX4_text_92 ?_
    exact fr_iret (pc := 93) O dX4_text_93 h
def qX4_text_L42 (post : Int32 → Mem → Prop) (k42 : Int32 → Mem → Prop) (x1 : Int32) (σ : Mem) : Prop := ((¬ (σ 0 6) = 0 → qX4_text_B66 post x1 σ) ∧ ((σ 0 6) = 0 → (((σ 0 10) = 0 → qX4_text_B66 post x1 σ) ∧ (¬ (σ 0 10) = 0 → (qX4_readLine σ (fun σ57 => (∀ y1_60 : Int32, y1_60 = x1 + (1 : Int32) → k42 y1_60 σ57)))))))
set_option maxRecDepth 20000 in
theorem kX4_text_L42 {X : Cx} {G : Gw} (hG : fw_IsM G) (O : fw_Ok X G cX4_text 3 RX4 5 112 (some .int))  {post : Int32 → Mem → Prop} {k42 : Int32 → Mem → Prop}  (hk42 : ∀ (x1 : Int32) (σ : Mem), k42 x1 σ → fw_At X G 3 (fw_QI X G post) 42 [(0, .ref (gad G 0)), (1, .int x1)] [] σ) {x1 : Int32} {σ : Mem} (h : qX4_text_L42 post k42 x1 σ) : fw_At X G 3 (fw_QI X G post) 42 [(0, .ref (gad G 0)), (1, .int x1)] [] σ := by
  unfold qX4_text_L42 at h
  refine fr_aload_n (pc := 42) O 0 dX4_text_42 rfl rfl ?_
  refine fr_get (pc := 43) (k := 6) (v := .int (σ 0 6)) O cl_X4 m_719 (sM_0 hG) (by decide) rfl rfl dX4_text_43 ?_
  refine fr_if_ne (pc := 46) (tgt := 66) O dX4_text_46 (by decide) (fun c_46 => ?_) (fun c_46 => ?_)
  · have h := h.1 c_46
    exact kX4_text_B66 hG O  h
  · have h := h.2 c_46
    refine fr_aload_n (pc := 49) O 0 dX4_text_49 rfl rfl ?_
    refine fr_get (pc := 50) (k := 10) (v := .int (σ 0 10)) O cl_X4 m_723 (sM_0 hG) (by decide) rfl rfl dX4_text_50 ?_
    refine fr_if_eq (pc := 53) (tgt := 66) O dX4_text_53 (by decide) (fun c_53 => ?_) (fun c_53 => ?_)
    · have h := h.1 c_53
      exact kX4_text_B66 hG O  h
    · have h := h.2 c_53
      refine fr_aload_n (pc := 56) O 0 dX4_text_56 rfl rfl ?_
      refine fr_callVV (pc := 57) (st := []) O (tX4_readLine X.2.1 hG  h) mt_X4_readLine mv_X4_readLine m_824 cl_X4 rfl (sM_0 hG) rfl (by decide) rfl (Nat.le_of_ble_eq_true rfl) dX4_text_57 (fun σ57 h => ?_)
      refine fr_iinc (pc := 60) O 1 [1, 0] (w := (1 : Int32)) (lvF := fun y1_60 => [(0, .ref (gad G 0)), (1, .int y1_60)]) dX4_text_60 rfl (by decide) (by decide) (fun _ => rfl) (fun y1_60 e_y1_60 => ?_)
      have h := h y1_60 e_y1_60
      refine fr_goto (pc := 63) (tgt := 42) O dX4_text_63 (by decide) ?_
      exact hk42 _ _ h
set_option maxRecDepth 20000 in
theorem kX4_text_L42w {X : Cx} {G : Gw} (hG : fw_IsM G) (O : fw_Ok X G cX4_text 3 RX4 5 112 (some .int))  {post : Int32 → Mem → Prop}   {n9 : Nat} {x1 : Int32} {σ : Mem} (h : it1 (qX4_text_L42 post) n9 x1 σ) : fw_At X G 3 (fw_QI X G post) 42 [(0, .ref (gad G 0)), (1, .int x1)] [] σ :=
  it1_walk (T := fun x1 σ => fw_At X G 3 (fw_QI X G post) 42 [(0, .ref (gad G 0)), (1, .int x1)] [] σ) (fun k42 hk42 x1 σ h => kX4_text_L42 hG O hk42 h) n9 x1 σ h
def qX4_text_L19 (post : Int32 → Mem → Prop) (k19 : Int32 → Int32 → Mem → Prop) (x1 : Int32) (x2 : Int32) (σ : Mem) : Prop := (((39 : Int32) ≤ x2 → (qX4_readsOn σ (fun σ39 => ∃ n9, it1 (qX4_text_L42 post) n9 x1 σ39))) ∧ (¬ (39 : Int32) ≤ x2 → (vp_in x2 39 ∧ (∀ σ31 : Mem, σ31 = up2 σ 2 x2.toNatClampNeg (0 : Int32) → (∀ y2_32 : Int32, y2_32 = x2 + (1 : Int32) → k19 x1 y2_32 σ31)))))
set_option maxRecDepth 20000 in
theorem kX4_text_L19 {X : Cx} {G : Gw} (hG : fw_IsM G) (O : fw_Ok X G cX4_text 3 RX4 5 112 (some .int))  {post : Int32 → Mem → Prop} {k19 : Int32 → Int32 → Mem → Prop}  (hk19 : ∀ (x1 : Int32) (x2 : Int32) (σ : Mem), k19 x1 x2 σ → fw_At X G 3 (fw_QI X G post) 19 [(0, .ref (gad G 0)), (1, .int x1), (2, .int x2)] [] σ) {x1 : Int32} {x2 : Int32} {σ : Mem} (h : qX4_text_L19 post k19 x1 x2 σ) : fw_At X G 3 (fw_QI X G post) 19 [(0, .ref (gad G 0)), (1, .int x1), (2, .int x2)] [] σ := by
  unfold qX4_text_L19 at h
  refine fr_iload_n (pc := 19) O 2 dX4_text_19 rfl rfl ?_
  refine fr_bipush (pc := 20) O (v := (39 : Int32)) dX4_text_20 (by decide) ?_
  refine fr_icmp_ge (pc := 22) (tgt := 38) O dX4_text_22 (by decide) (fun c_22 => ?_) (fun c_22 => ?_)
  · have h := h.1 c_22
    refine fr_aload_n (pc := 38) O 0 dX4_text_38 rfl rfl ?_
    refine fr_callVV (pc := 39) (st := []) O (tX4_readsOn X.2.1 hG  h) mt_X4_readsOn mv_X4_readsOn m_808 cl_X4 rfl (sM_0 hG) rfl (by decide) rfl (Nat.le_of_ble_eq_true rfl) dX4_text_39 (fun σ39 h => ?_)
    refine fw_sub (lv' := [(0, .ref (gad G 0)), (1, .int x1)]) [0, 1] rfl ?_
    obtain ⟨n9, h⟩ := h
    exact kX4_text_L42w hG O  h
  · have h := h.2 c_22
    refine fr_aload_n (pc := 25) O 0 dX4_text_25 rfl rfl ?_
    refine fr_get (pc := 26) (k := 1) (v := .ref (gad G 2)) O cl_X4 m_714 (sM_0 hG) (by decide) rfl rfl dX4_text_26 ?_
    refine fr_iload_n (pc := 29) O 2 dX4_text_29 rfl rfl ?_
    refine fr_iconst (pc := 30) O (v := (0 : Int32)) dX4_text_30 (by decide) ?_
    have hi_31 := h.1
    have h := h.2
    refine fr_iast (pc := 31) O (sM_2 hG) hi_31 dX4_text_31 (fun σ31 e_σ31 => ?_)
    have h := h σ31 e_σ31
    refine fr_iinc (pc := 32) O 2 [1, 2, 0] (w := (1 : Int32)) (lvF := fun y2_32 => [(0, .ref (gad G 0)), (1, .int x1), (2, .int y2_32)]) dX4_text_32 rfl (by decide) (by decide) (fun _ => rfl) (fun y2_32 e_y2_32 => ?_)
    have h := h y2_32 e_y2_32
    refine fr_goto (pc := 35) (tgt := 19) O dX4_text_35 (by decide) ?_
    exact hk19 _ _ _ h
set_option maxRecDepth 20000 in
theorem kX4_text_L19w {X : Cx} {G : Gw} (hG : fw_IsM G) (O : fw_Ok X G cX4_text 3 RX4 5 112 (some .int))  {post : Int32 → Mem → Prop}   {n9 : Nat} {x1 : Int32} {x2 : Int32} {σ : Mem} (h : it2 (qX4_text_L19 post) n9 x1 x2 σ) : fw_At X G 3 (fw_QI X G post) 19 [(0, .ref (gad G 0)), (1, .int x1), (2, .int x2)] [] σ :=
  it2_walk (T := fun x1 x2 σ => fw_At X G 3 (fw_QI X G post) 19 [(0, .ref (gad G 0)), (1, .int x1), (2, .int x2)] [] σ) (fun k19 hk19 x1 x2 σ h => kX4_text_L19 hG O hk19 h) n9 x1 x2 σ h
def qX4_text  (σ : Mem) (post : Int32 → Mem → Prop) : Prop := (∀ σ2 : Mem, σ2 = up2 σ 0 6 (0 : Int32) → (∀ σ7 : Mem, σ7 = up2 σ2 0 8 (0 : Int32) → (∀ σ12 : Mem, σ12 = up2 σ7 0 2 (0 : Int32) → ∃ n9, it2 (qX4_text_L19 post) n9 (0 : Int32) (0 : Int32) σ12)))
set_option maxRecDepth 20000 in
theorem kX4_text {X : Cx} {G : Gw} (hG : fw_IsM G) (O : fw_Ok X G cX4_text 3 RX4 5 112 (some .int))   {σ : Mem} {post : Int32 → Mem → Prop} (h : qX4_text  σ post) : fw_At X G 3 (fw_QI X G post) 0 [(0, .ref (gad G 0))] [] σ := by
  unfold qX4_text at h
  refine fr_aload_n (pc := 0) O 0 dX4_text_0 rfl rfl ?_
  refine fr_iconst (pc := 1) O (v := (0 : Int32)) dX4_text_1 (by decide) ?_
  refine fr_put (pc := 2) (k := 6) O cl_X4 m_719 (sM_0 hG) (by decide) rfl rfl rfl rfl (fun _ => Nat.le_of_ble_eq_true rfl) (fun _ => rfl) dX4_text_2 (fun σ2 e_σ2 => ?_)
  have h := h σ2 e_σ2
  refine fr_aload_n (pc := 5) O 0 dX4_text_5 rfl rfl ?_
  refine fr_iconst (pc := 6) O (v := (0 : Int32)) dX4_text_6 (by decide) ?_
  refine fr_put (pc := 7) (k := 8) O cl_X4 m_721 (sM_0 hG) (by decide) rfl rfl rfl rfl (fun _ => Nat.le_of_ble_eq_true rfl) (fun _ => rfl) dX4_text_7 (fun σ7 e_σ7 => ?_)
  have h := h σ7 e_σ7
  refine fr_aload_n (pc := 10) O 0 dX4_text_10 rfl rfl ?_
  refine fr_iconst (pc := 11) O (v := (0 : Int32)) dX4_text_11 (by decide) ?_
  refine fr_put (pc := 12) (k := 2) O cl_X4 m_715 (sM_0 hG) (by decide) rfl rfl isB_0.nar isB_0.fit (fun _ => Nat.le_of_ble_eq_true rfl) (fun _ => rfl) dX4_text_12 (fun σ12 e_σ12 => ?_)
  have h := h σ12 e_σ12
  refine fr_iconst (pc := 15) O (v := (0 : Int32)) dX4_text_15 (by decide) ?_
  refine fr_istore_n (pc := 16) O [1, 0] (lv' := [(0, .ref (gad G 0)), (1, .int (0 : Int32))]) dX4_text_16 rfl (by decide) rfl ?_
  refine fr_iconst (pc := 17) O (v := (0 : Int32)) dX4_text_17 (by decide) ?_
  refine fr_istore_n (pc := 18) O [1, 2, 0] (lv' := [(0, .ref (gad G 0)), (1, .int (0 : Int32)), (2, .int (0 : Int32))]) dX4_text_18 rfl (by decide) rfl ?_
  obtain ⟨n9, h⟩ := h
  exact kX4_text_L19w hG O  h
theorem tX4_text (l : Launch) {G : Gw} (hG : fw_IsM G)   {σ : Mem} {post : Int32 → Mem → Prop} (h : qX4_text  σ post) : fw_CI l G yX4_text cX4_text 3 .int 5 112 [.ref (gad G 0)] σ post := fw_ofI (sok_M hG) (by decide) (Nat.le_of_ble_eq_true rfl) (fun X O => kX4_text hG O  h)
def qX4_fault  (σ : Mem) (post : Int32 → Mem → Prop) : Prop := post (σ 0 5) σ
set_option maxRecDepth 20000 in
theorem kX4_fault {X : Cx} {G : Gw} (hG : fw_IsM G) (O : fw_Ok X G cX4_fault 1 RX4 0 0 (some .int))   {σ : Mem} {post : Int32 → Mem → Prop} (h : qX4_fault  σ post) : fw_At X G 1 (fw_QI X G post) 0 [(0, .ref (gad G 0))] [] σ := by
  unfold qX4_fault at h
  refine fr_aload_n (pc := 0) O 0 dX4_fault_0 rfl rfl ?_
  refine fr_get (pc := 1) (k := 5) (v := .int (σ 0 5)) O cl_X4 m_718 (sM_0 hG) (by decide) rfl rfl dX4_fault_1 ?_
  exact fr_iret (pc := 4) O dX4_fault_4 h
theorem tX4_fault (l : Launch) {G : Gw} (hG : fw_IsM G)   {σ : Mem} {post : Int32 → Mem → Prop} (h : qX4_fault  σ post) : fw_CI l G yX4_fault cX4_fault 1 .int 0 0 [.ref (gad G 0)] σ post := fw_ofI (sok_M hG) (by decide) (Nat.le_of_ble_eq_true rfl) (fun X O => kX4_fault hG O  h)
def qX4_isWheel (a1 : Int32) (σ : Mem) (post : Int32 → Mem → Prop) : Prop := (vp_in (16 : Int32) 234 ∧ (qX4_in a1.toInt64 (0 : Int64) (((σ 1 (16 : Int32).toNatClampNeg) - (1 : Int32)).toInt64) σ (fun r13 σ13 => (isB r13 ∧ post r13 σ13))))
set_option maxRecDepth 20000 in
theorem kX4_isWheel {X : Cx} {G : Gw} (hG : fw_IsM G) (O : fw_Ok X G cX4_isWheel 2 RX4 1 25 (some .boolean)) {a1 : Int32}  {σ : Mem} {post : Int32 → Mem → Prop} (h : qX4_isWheel a1 σ post) : fw_At X G 2 (fw_QI X G post) 0 [(0, .ref (gad G 0)), (1, .int a1)] [] σ := by
  unfold qX4_isWheel at h
  refine fr_iload_n (pc := 0) O 1 dX4_isWheel_0 rfl rfl ?_
  refine fr_i2l (pc := 1) O dX4_isWheel_1 ?_
  refine fr_lconst (pc := 2) O (v := (0 : Int64)) dX4_isWheel_2 (by decide) ?_
  refine fr_aload_n (pc := 3) O 0 dX4_isWheel_3 rfl rfl ?_
  refine fr_get (pc := 4) (k := 0) (v := .ref (gad G 1)) O cl_X4 m_713 (sM_0 hG) (by decide) rfl rfl dX4_isWheel_4 ?_
  refine fr_bipush (pc := 7) O (v := (16 : Int32)) dX4_isWheel_7 (by decide) ?_
  have hi_9 := h.1
  have h := h.2
  refine fr_iald (pc := 9) O (sM_1 hG) hi_9 dX4_isWheel_9 ?_
  refine fr_iconst (pc := 10) O (v := (1 : Int32)) dX4_isWheel_10 (by decide) ?_
  refine fr_isub (pc := 11) O dX4_isWheel_11 ?_
  refine fr_i2l (pc := 12) O dX4_isWheel_12 ?_
  refine fr_callSI (pc := 13) (st := []) O (tX4_in X.2.1 hG  h) mt_X4_in m_798 m_797 rfl (by decide) rfl (Nat.le_of_ble_eq_true rfl) dX4_isWheel_13 (fun r13 σ13 h => ?_)
  exact fr_zret (pc := 16) O dX4_isWheel_16 h.1 h.2
theorem tX4_isWheel (l : Launch) {G : Gw} (hG : fw_IsM G) {a1 : Int32}  {σ : Mem} {post : Int32 → Mem → Prop} (h : qX4_isWheel a1 σ post) : fw_CI l G yX4_isWheel cX4_isWheel 2 .boolean 1 25 [.ref (gad G 0), .int a1] σ post := fw_ofI (sok_M hG) (by decide) (Nat.le_of_ble_eq_true rfl) (fun X O => kX4_isWheel hG O  h)
def qX4_isAct (a1 : Int32) (σ : Mem) (post : Int32 → Mem → Prop) : Prop := (vp_in (33 : Int32) 234 ∧ (qX4_in a1.toInt64 (0 : Int64) (((σ 1 (33 : Int32).toNatClampNeg) - (1 : Int32)).toInt64) σ (fun r13 σ13 => (isB r13 ∧ post r13 σ13))))
set_option maxRecDepth 20000 in
theorem kX4_isAct {X : Cx} {G : Gw} (hG : fw_IsM G) (O : fw_Ok X G cX4_isAct 2 RX4 1 25 (some .boolean)) {a1 : Int32}  {σ : Mem} {post : Int32 → Mem → Prop} (h : qX4_isAct a1 σ post) : fw_At X G 2 (fw_QI X G post) 0 [(0, .ref (gad G 0)), (1, .int a1)] [] σ := by
  unfold qX4_isAct at h
  refine fr_iload_n (pc := 0) O 1 dX4_isAct_0 rfl rfl ?_
  refine fr_i2l (pc := 1) O dX4_isAct_1 ?_
  refine fr_lconst (pc := 2) O (v := (0 : Int64)) dX4_isAct_2 (by decide) ?_
  refine fr_aload_n (pc := 3) O 0 dX4_isAct_3 rfl rfl ?_
  refine fr_get (pc := 4) (k := 0) (v := .ref (gad G 1)) O cl_X4 m_713 (sM_0 hG) (by decide) rfl rfl dX4_isAct_4 ?_
  refine fr_bipush (pc := 7) O (v := (33 : Int32)) dX4_isAct_7 (by decide) ?_
  have hi_9 := h.1
  have h := h.2
  refine fr_iald (pc := 9) O (sM_1 hG) hi_9 dX4_isAct_9 ?_
  refine fr_iconst (pc := 10) O (v := (1 : Int32)) dX4_isAct_10 (by decide) ?_
  refine fr_isub (pc := 11) O dX4_isAct_11 ?_
  refine fr_i2l (pc := 12) O dX4_isAct_12 ?_
  refine fr_callSI (pc := 13) (st := []) O (tX4_in X.2.1 hG  h) mt_X4_in m_798 m_797 rfl (by decide) rfl (Nat.le_of_ble_eq_true rfl) dX4_isAct_13 (fun r13 σ13 h => ?_)
  exact fr_zret (pc := 16) O dX4_isAct_16 h.1 h.2
theorem tX4_isAct (l : Launch) {G : Gw} (hG : fw_IsM G) {a1 : Int32}  {σ : Mem} {post : Int32 → Mem → Prop} (h : qX4_isAct a1 σ post) : fw_CI l G yX4_isAct cX4_isAct 2 .boolean 1 25 [.ref (gad G 0), .int a1] σ post := fw_ofI (sok_M hG) (by decide) (Nat.le_of_ble_eq_true rfl) (fun X O => kX4_isAct hG O  h)
def qX4_isLong (a0 : Int32) (σ : Mem) (post : Int32 → Mem → Prop) : Prop := (qX4_in a0.toInt64 (0 : Int64) (200 : Int64) σ (fun r6 σ6 => (isB r6 ∧ post r6 σ6)))
set_option maxRecDepth 20000 in
theorem kX4_isLong {X : Cx} {G : Gw} (hG : fw_IsM G) (O : fw_Ok X G cX4_isLong 1 RX4 1 25 (some .boolean)) {a0 : Int32}  {σ : Mem} {post : Int32 → Mem → Prop} (h : qX4_isLong a0 σ post) : fw_At X G 1 (fw_QI X G post) 0 [(0, .int a0)] [] σ := by
  unfold qX4_isLong at h
  refine fr_iload_n (pc := 0) O 0 dX4_isLong_0 rfl rfl ?_
  refine fr_i2l (pc := 1) O dX4_isLong_1 ?_
  refine fr_lconst (pc := 2) O (v := (0 : Int64)) dX4_isLong_2 (by decide) ?_
  refine fr_ldc2 (pc := 3) O m_943 dX4_isLong_3 ?_
  refine fr_callSI (pc := 6) (st := []) O (tX4_in X.2.1 hG  h) mt_X4_in m_798 m_797 rfl (by decide) rfl (Nat.le_of_ble_eq_true rfl) dX4_isLong_6 (fun r6 σ6 h => ?_)
  exact fr_zret (pc := 9) O dX4_isLong_9 h.1 h.2
theorem tX4_isLong (l : Launch) {G : Gw} (hG : fw_IsM G) {a0 : Int32}  {σ : Mem} {post : Int32 → Mem → Prop} (h : qX4_isLong a0 σ post) : fw_CI l G yX4_isLong cX4_isLong 1 .boolean 1 25 [.int a0] σ post := fw_ofI (sok_M hG) (by decide) (Nat.le_of_ble_eq_true rfl) (fun X O => kX4_isLong hG O  h)
def qX4_joinedOn_B130 (a1 : Int32) (a2 : Int32) (post : Int32 → Mem → Prop) (s0 : Int32) (σ : Mem) : Prop := post s0 σ
set_option maxRecDepth 20000 in
theorem kX4_joinedOn_B130 {X : Cx} {G : Gw} (hG : fw_IsM G) (O : fw_Ok X G cX4_joinedOn 8 RX4 0 0 (some .int)) {a1 : Int32} {a2 : Int32} {post : Int32 → Mem → Prop}   {s0 : Int32} {σ : Mem} (h : qX4_joinedOn_B130 a1 a2 post s0 σ) : fw_At X G 8 (fw_QI X G post) 130 [(0, .ref (gad G 0)), (1, .int a1), (2, .int a2)] [.int s0] σ := by
  unfold qX4_joinedOn_B130 at h
  exact fr_iret (pc := 130) O dX4_joinedOn_130 h
def qX4_joinedOn_B128 (a1 : Int32) (a2 : Int32) (post : Int32 → Mem → Prop) (x7 : Int32) (σ : Mem) : Prop := qX4_joinedOn_B130 a1 a2 post x7 σ
set_option maxRecDepth 20000 in
theorem kX4_joinedOn_B128 {X : Cx} {G : Gw} (hG : fw_IsM G) (O : fw_Ok X G cX4_joinedOn 8 RX4 0 0 (some .int)) {a1 : Int32} {a2 : Int32} {post : Int32 → Mem → Prop}   {x7 : Int32} {σ : Mem} (h : qX4_joinedOn_B128 a1 a2 post x7 σ) : fw_At X G 8 (fw_QI X G post) 128 [(0, .ref (gad G 0)), (1, .int a1), (2, .int a2), (7, .int x7)] [] σ := by
  unfold qX4_joinedOn_B128 at h
  refine fr_iload (pc := 128) O 3 dX4_joinedOn_128 rfl ?_
  refine fw_sub (lv' := [(0, .ref (gad G 0)), (1, .int a1), (2, .int a2)]) [0, 1, 2] rfl ?_
  exact kX4_joinedOn_B130 hG O  h
def qX4_joinedOn_B103 (a1 : Int32) (a2 : Int32) (post : Int32 → Mem → Prop) (x3 : Int32) (x4 : Int32) (s0 : Int32) (σ : Mem) : Prop := ((¬ x3 = (3 : Int32) → qX4_joinedOn_B128 a1 a2 post s0 σ) ∧ (x3 = (3 : Int32) → ((s0 ≤ (x4 + (20 : Int32)) → qX4_joinedOn_B128 a1 a2 post s0 σ) ∧ (¬ s0 ≤ (x4 + (20 : Int32)) → qX4_joinedOn_B130 a1 a2 post (x4 + (20 : Int32)) σ))))
set_option maxRecDepth 20000 in
theorem kX4_joinedOn_B103 {X : Cx} {G : Gw} (hG : fw_IsM G) (O : fw_Ok X G cX4_joinedOn 8 RX4 0 0 (some .int)) {a1 : Int32} {a2 : Int32} {post : Int32 → Mem → Prop}   {x3 : Int32} {x4 : Int32} {s0 : Int32} {σ : Mem} (h : qX4_joinedOn_B103 a1 a2 post x3 x4 s0 σ) : fw_At X G 8 (fw_QI X G post) 103 [(0, .ref (gad G 0)), (1, .int a1), (2, .int a2), (3, .int x3), (4, .int x4)] [.int s0] σ := by
  unfold qX4_joinedOn_B103 at h
  refine fr_istore (pc := 103) O [1, 2, 3, 4, 5, 0] (lv' := [(0, .ref (gad G 0)), (1, .int a1), (2, .int a2), (3, .int x3), (4, .int x4), (7, .int s0)]) dX4_joinedOn_103 (by decide) rfl ?_
  refine fr_iload_n (pc := 105) O 3 dX4_joinedOn_105 rfl rfl ?_
  refine fr_iconst (pc := 106) O (v := (3 : Int32)) dX4_joinedOn_106 (by decide) ?_
  refine fr_icmp_ne (pc := 107) (tgt := 128) O dX4_joinedOn_107 (by decide) (fun c_107 => ?_) (fun c_107 => ?_)
  · have h := h.1 c_107
    refine fw_sub (lv' := [(0, .ref (gad G 0)), (1, .int a1), (2, .int a2), (7, .int s0)]) [0, 1, 2, 5] rfl ?_
    exact kX4_joinedOn_B128 hG O  h
  · have h := h.2 c_107
    refine fr_iload (pc := 110) O 5 dX4_joinedOn_110 rfl ?_
    refine fr_iload (pc := 112) O 4 dX4_joinedOn_112 rfl ?_
    refine fr_bipush (pc := 114) O (v := (20 : Int32)) dX4_joinedOn_114 (by decide) ?_
    refine fr_iadd (pc := 116) O dX4_joinedOn_116 ?_
    refine fr_icmp_le (pc := 117) (tgt := 128) O dX4_joinedOn_117 (by decide) (fun c_117 => ?_) (fun c_117 => ?_)
    · have h := h.1 c_117
      refine fw_sub (lv' := [(0, .ref (gad G 0)), (1, .int a1), (2, .int a2), (7, .int s0)]) [0, 1, 2, 5] rfl ?_
      exact kX4_joinedOn_B128 hG O  h
    · have h := h.2 c_117
      refine fr_iload (pc := 120) O 4 dX4_joinedOn_120 rfl ?_
      refine fr_bipush (pc := 122) O (v := (20 : Int32)) dX4_joinedOn_122 (by decide) ?_
      refine fr_iadd (pc := 124) O dX4_joinedOn_124 ?_
      refine fr_goto (pc := 125) (tgt := 130) O dX4_joinedOn_125 (by decide) ?_
      refine fw_sub (lv' := [(0, .ref (gad G 0)), (1, .int a1), (2, .int a2)]) [0, 1, 2] rfl ?_
      exact kX4_joinedOn_B130 hG O  h
def qX4_joinedOn (a1 : Int32) (a2 : Int32) (σ : Mem) (post : Int32 → Mem → Prop) : Prop := (vp_in (a1 + a2) 234 ∧ (∀ y3_8 : Int32, y3_8 = σ 1 (a1 + a2).toNatClampNeg → (vp_in ((a1 + (12 : Int32)) + a2) 234 ∧ (∀ y4_20 : Int32, y4_20 = σ 1 ((a1 + (12 : Int32)) + a2).toNatClampNeg → (vp_in ((a1 + (4 : Int32)) + a2) 234 ∧ (∀ y5_32 : Int32, y5_32 = σ 1 ((a1 + (4 : Int32)) + a2).toNatClampNeg → (vp_in (a1 + (35 : Int32)) 234 ∧ (vp_in (a1 + (34 : Int32)) 234 ∧ (¬ ((y5_32 + (σ 1 (a1 + (34 : Int32)).toNatClampNeg)) + (5 : Int32)) = 0 ∧ (∀ y6_64 : Int32, y6_64 = ((y4_20 + (σ 1 (a1 + (35 : Int32)).toNatClampNeg)) * y5_32) / ((y5_32 + (σ 1 (a1 + (34 : Int32)).toNatClampNeg)) + (5 : Int32)) → ((¬ y3_8 = 0 → ((¬ y3_8 = (1 : Int32) → ((y6_64 ≤ y4_20 → qX4_joinedOn_B103 a1 a2 post y3_8 y4_20 y4_20 σ) ∧ (¬ y6_64 ≤ y4_20 → qX4_joinedOn_B103 a1 a2 post y3_8 y4_20 y6_64 σ))) ∧ (y3_8 = (1 : Int32) → (¬ (2 : Int32) = 0 ∧ post (y4_20 + ((y6_64 - y4_20) / (2 : Int32))) σ)))) ∧ (y3_8 = 0 → post y6_64 σ))))))))))))
set_option maxRecDepth 20000 in
theorem kX4_joinedOn {X : Cx} {G : Gw} (hG : fw_IsM G) (O : fw_Ok X G cX4_joinedOn 8 RX4 0 0 (some .int)) {a1 : Int32} {a2 : Int32}  {σ : Mem} {post : Int32 → Mem → Prop} (h : qX4_joinedOn a1 a2 σ post) : fw_At X G 8 (fw_QI X G post) 0 [(0, .ref (gad G 0)), (1, .int a1), (2, .int a2)] [] σ := by
  unfold qX4_joinedOn at h
  refine fr_aload_n (pc := 0) O 0 dX4_joinedOn_0 rfl rfl ?_
  refine fr_get (pc := 1) (k := 0) (v := .ref (gad G 1)) O cl_X4 m_713 (sM_0 hG) (by decide) rfl rfl dX4_joinedOn_1 ?_
  refine fr_iload_n (pc := 4) O 1 dX4_joinedOn_4 rfl rfl ?_
  refine fr_iload_n (pc := 5) O 2 dX4_joinedOn_5 rfl rfl ?_
  refine fr_iadd (pc := 6) O dX4_joinedOn_6 ?_
  have hi_7 := h.1
  have h := h.2
  refine fr_iald (pc := 7) O (sM_1 hG) hi_7 dX4_joinedOn_7 ?_
  refine fr_nm (fun y3_8 e_y3_8 => ?_)
  have h := h y3_8 e_y3_8
  refine fr_istore_n (pc := 8) O [1, 2, 3, 0] (lv' := [(0, .ref (gad G 0)), (1, .int a1), (2, .int a2), (3, .int y3_8)]) dX4_joinedOn_8 rfl (by decide) rfl ?_
  refine fr_aload_n (pc := 9) O 0 dX4_joinedOn_9 rfl rfl ?_
  refine fr_get (pc := 10) (k := 0) (v := .ref (gad G 1)) O cl_X4 m_713 (sM_0 hG) (by decide) rfl rfl dX4_joinedOn_10 ?_
  refine fr_iload_n (pc := 13) O 1 dX4_joinedOn_13 rfl rfl ?_
  refine fr_bipush (pc := 14) O (v := (12 : Int32)) dX4_joinedOn_14 (by decide) ?_
  refine fr_iadd (pc := 16) O dX4_joinedOn_16 ?_
  refine fr_iload_n (pc := 17) O 2 dX4_joinedOn_17 rfl rfl ?_
  refine fr_iadd (pc := 18) O dX4_joinedOn_18 ?_
  have hi_19 := h.1
  have h := h.2
  refine fr_iald (pc := 19) O (sM_1 hG) hi_19 dX4_joinedOn_19 ?_
  refine fr_nm (fun y4_20 e_y4_20 => ?_)
  have h := h y4_20 e_y4_20
  refine fr_istore (pc := 20) O [1, 2, 3, 4, 0] (lv' := [(0, .ref (gad G 0)), (1, .int a1), (2, .int a2), (3, .int y3_8), (4, .int y4_20)]) dX4_joinedOn_20 (by decide) rfl ?_
  refine fr_aload_n (pc := 22) O 0 dX4_joinedOn_22 rfl rfl ?_
  refine fr_get (pc := 23) (k := 0) (v := .ref (gad G 1)) O cl_X4 m_713 (sM_0 hG) (by decide) rfl rfl dX4_joinedOn_23 ?_
  refine fr_iload_n (pc := 26) O 1 dX4_joinedOn_26 rfl rfl ?_
  refine fr_iconst (pc := 27) O (v := (4 : Int32)) dX4_joinedOn_27 (by decide) ?_
  refine fr_iadd (pc := 28) O dX4_joinedOn_28 ?_
  refine fr_iload_n (pc := 29) O 2 dX4_joinedOn_29 rfl rfl ?_
  refine fr_iadd (pc := 30) O dX4_joinedOn_30 ?_
  have hi_31 := h.1
  have h := h.2
  refine fr_iald (pc := 31) O (sM_1 hG) hi_31 dX4_joinedOn_31 ?_
  refine fr_nm (fun y5_32 e_y5_32 => ?_)
  have h := h y5_32 e_y5_32
  refine fr_istore (pc := 32) O [1, 2, 3, 4, 5, 0] (lv' := [(0, .ref (gad G 0)), (1, .int a1), (2, .int a2), (3, .int y3_8), (4, .int y4_20), (5, .int y5_32)]) dX4_joinedOn_32 (by decide) rfl ?_
  refine fr_iload (pc := 34) O 4 dX4_joinedOn_34 rfl ?_
  refine fr_aload_n (pc := 36) O 0 dX4_joinedOn_36 rfl rfl ?_
  refine fr_get (pc := 37) (k := 0) (v := .ref (gad G 1)) O cl_X4 m_713 (sM_0 hG) (by decide) rfl rfl dX4_joinedOn_37 ?_
  refine fr_iload_n (pc := 40) O 1 dX4_joinedOn_40 rfl rfl ?_
  refine fr_bipush (pc := 41) O (v := (35 : Int32)) dX4_joinedOn_41 (by decide) ?_
  refine fr_iadd (pc := 43) O dX4_joinedOn_43 ?_
  have hi_44 := h.1
  have h := h.2
  refine fr_iald (pc := 44) O (sM_1 hG) hi_44 dX4_joinedOn_44 ?_
  refine fr_iadd (pc := 45) O dX4_joinedOn_45 ?_
  refine fr_iload (pc := 46) O 5 dX4_joinedOn_46 rfl ?_
  refine fr_imul (pc := 48) O dX4_joinedOn_48 ?_
  refine fr_iload (pc := 49) O 5 dX4_joinedOn_49 rfl ?_
  refine fr_aload_n (pc := 51) O 0 dX4_joinedOn_51 rfl rfl ?_
  refine fr_get (pc := 52) (k := 0) (v := .ref (gad G 1)) O cl_X4 m_713 (sM_0 hG) (by decide) rfl rfl dX4_joinedOn_52 ?_
  refine fr_iload_n (pc := 55) O 1 dX4_joinedOn_55 rfl rfl ?_
  refine fr_bipush (pc := 56) O (v := (34 : Int32)) dX4_joinedOn_56 (by decide) ?_
  refine fr_iadd (pc := 58) O dX4_joinedOn_58 ?_
  have hi_59 := h.1
  have h := h.2
  refine fr_iald (pc := 59) O (sM_1 hG) hi_59 dX4_joinedOn_59 ?_
  refine fr_iadd (pc := 60) O dX4_joinedOn_60 ?_
  refine fr_iconst (pc := 61) O (v := (5 : Int32)) dX4_joinedOn_61 (by decide) ?_
  refine fr_iadd (pc := 62) O dX4_joinedOn_62 ?_
  refine fr_idiv (pc := 63) O h.1 dX4_joinedOn_63 ?_
  have h := h.2
  refine fr_nm (fun y6_64 e_y6_64 => ?_)
  have h := h y6_64 e_y6_64
  refine fr_istore (pc := 64) O [1, 2, 3, 4, 5, 6, 0] (lv' := [(0, .ref (gad G 0)), (1, .int a1), (2, .int a2), (3, .int y3_8), (4, .int y4_20), (5, .int y5_32), (6, .int y6_64)]) dX4_joinedOn_64 (by decide) rfl ?_
  refine fr_iload_n (pc := 66) O 3 dX4_joinedOn_66 rfl rfl ?_
  refine fr_if_ne (pc := 67) (tgt := 73) O dX4_joinedOn_67 (by decide) (fun c_67 => ?_) (fun c_67 => ?_)
  · have h := h.1 c_67
    refine fr_iload_n (pc := 73) O 3 dX4_joinedOn_73 rfl rfl ?_
    refine fr_iconst (pc := 74) O (v := (1 : Int32)) dX4_joinedOn_74 (by decide) ?_
    refine fr_icmp_ne (pc := 75) (tgt := 89) O dX4_joinedOn_75 (by decide) (fun c_75 => ?_) (fun c_75 => ?_)
    · have h := h.1 c_75
      refine fr_iload (pc := 89) O 6 dX4_joinedOn_89 rfl ?_
      refine fr_iload (pc := 91) O 4 dX4_joinedOn_91 rfl ?_
      refine fr_icmp_le (pc := 93) (tgt := 101) O dX4_joinedOn_93 (by decide) (fun c_93 => ?_) (fun c_93 => ?_)
      · have h := h.1 c_93
        refine fr_iload (pc := 101) O 4 dX4_joinedOn_101 rfl ?_
        refine fw_sub (lv' := [(0, .ref (gad G 0)), (1, .int a1), (2, .int a2), (3, .int y3_8), (4, .int y4_20)]) [0, 1, 2, 3, 4] rfl ?_
        exact kX4_joinedOn_B103 hG O  h
      · have h := h.2 c_93
        refine fr_iload (pc := 96) O 6 dX4_joinedOn_96 rfl ?_
        refine fr_goto (pc := 98) (tgt := 103) O dX4_joinedOn_98 (by decide) ?_
        refine fw_sub (lv' := [(0, .ref (gad G 0)), (1, .int a1), (2, .int a2), (3, .int y3_8), (4, .int y4_20)]) [0, 1, 2, 3, 4] rfl ?_
        exact kX4_joinedOn_B103 hG O  h
    · have h := h.2 c_75
      refine fr_iload (pc := 78) O 4 dX4_joinedOn_78 rfl ?_
      refine fr_iload (pc := 80) O 6 dX4_joinedOn_80 rfl ?_
      refine fr_iload (pc := 82) O 4 dX4_joinedOn_82 rfl ?_
      refine fr_isub (pc := 84) O dX4_joinedOn_84 ?_
      refine fr_iconst (pc := 85) O (v := (2 : Int32)) dX4_joinedOn_85 (by decide) ?_
      refine fr_idiv (pc := 86) O h.1 dX4_joinedOn_86 ?_
      have h := h.2
      refine fr_iadd (pc := 87) O dX4_joinedOn_87 ?_
      exact fr_iret (pc := 88) O dX4_joinedOn_88 h
  · have h := h.2 c_67
    refine fr_iload (pc := 70) O 6 dX4_joinedOn_70 rfl ?_
    exact fr_iret (pc := 72) O dX4_joinedOn_72 h
theorem tX4_joinedOn (l : Launch) {G : Gw} (hG : fw_IsM G) {a1 : Int32} {a2 : Int32}  {σ : Mem} {post : Int32 → Mem → Prop} (h : qX4_joinedOn a1 a2 σ post) : fw_CI l G yX4_joinedOn cX4_joinedOn 8 .int 0 0 [.ref (gad G 0), .int a1, .int a2] σ post := fw_ofI (sok_M hG) (by decide) (Nat.le_of_ble_eq_true rfl) (fun X O => kX4_joinedOn hG O  h)
def qX4_speedOn (a1 : Int32) (σ : Mem) (post : Int32 → Mem → Prop) : Prop := (vp_in (a1 + (35 : Int32)) 234 ∧ (vp_in (a1 + (34 : Int32)) 234 ∧ (¬ ((σ 1 (a1 + (34 : Int32)).toNatClampNeg) + (5 : Int32)) = 0 ∧ post ((σ 1 (a1 + (35 : Int32)).toNatClampNeg) / ((σ 1 (a1 + (34 : Int32)).toNatClampNeg) + (5 : Int32))) σ)))
set_option maxRecDepth 20000 in
theorem kX4_speedOn {X : Cx} {G : Gw} (hG : fw_IsM G) (O : fw_Ok X G cX4_speedOn 2 RX4 0 0 (some .int)) {a1 : Int32}  {σ : Mem} {post : Int32 → Mem → Prop} (h : qX4_speedOn a1 σ post) : fw_At X G 2 (fw_QI X G post) 0 [(0, .ref (gad G 0)), (1, .int a1)] [] σ := by
  unfold qX4_speedOn at h
  refine fr_aload_n (pc := 0) O 0 dX4_speedOn_0 rfl rfl ?_
  refine fr_get (pc := 1) (k := 0) (v := .ref (gad G 1)) O cl_X4 m_713 (sM_0 hG) (by decide) rfl rfl dX4_speedOn_1 ?_
  refine fr_iload_n (pc := 4) O 1 dX4_speedOn_4 rfl rfl ?_
  refine fr_bipush (pc := 5) O (v := (35 : Int32)) dX4_speedOn_5 (by decide) ?_
  refine fr_iadd (pc := 7) O dX4_speedOn_7 ?_
  have hi_8 := h.1
  have h := h.2
  refine fr_iald (pc := 8) O (sM_1 hG) hi_8 dX4_speedOn_8 ?_
  refine fr_aload_n (pc := 9) O 0 dX4_speedOn_9 rfl rfl ?_
  refine fr_get (pc := 10) (k := 0) (v := .ref (gad G 1)) O cl_X4 m_713 (sM_0 hG) (by decide) rfl rfl dX4_speedOn_10 ?_
  refine fr_iload_n (pc := 13) O 1 dX4_speedOn_13 rfl rfl ?_
  refine fr_bipush (pc := 14) O (v := (34 : Int32)) dX4_speedOn_14 (by decide) ?_
  refine fr_iadd (pc := 16) O dX4_speedOn_16 ?_
  have hi_17 := h.1
  have h := h.2
  refine fr_iald (pc := 17) O (sM_1 hG) hi_17 dX4_speedOn_17 ?_
  refine fr_iconst (pc := 18) O (v := (5 : Int32)) dX4_speedOn_18 (by decide) ?_
  refine fr_iadd (pc := 19) O dX4_speedOn_19 ?_
  refine fr_idiv (pc := 20) O h.1 dX4_speedOn_20 ?_
  have h := h.2
  exact fr_iret (pc := 21) O dX4_speedOn_21 h
theorem tX4_speedOn (l : Launch) {G : Gw} (hG : fw_IsM G) {a1 : Int32}  {σ : Mem} {post : Int32 → Mem → Prop} (h : qX4_speedOn a1 σ post) : fw_CI l G yX4_speedOn cX4_speedOn 2 .int 0 0 [.ref (gad G 0), .int a1] σ post := fw_ofI (sok_M hG) (by decide) (Nat.le_of_ble_eq_true rfl) (fun X O => kX4_speedOn hG O  h)
def qX4_actOn_B221 (a1 : Int32) (a2 : Int32) (a3 : Int32) (post : Mem → Prop) (σ : Mem) : Prop := post σ
set_option maxRecDepth 20000 in
theorem kX4_actOn_B221 {X : Cx} {G : Gw} (hG : fw_IsM G) (O : fw_Ok X G cX4_actOn 6 RX4 1 27 none) {a1 : Int32} {a2 : Int32} {a3 : Int32} {post : Mem → Prop}    {σ : Mem} (h : qX4_actOn_B221 a1 a2 a3 post σ) : fw_At X G 6 (fw_QV X G post) 221 [(0, .ref (gad G 0)), (1, .int a1), (2, .int a2), (3, .int a3)] [] σ := by
  unfold qX4_actOn_B221 at h
  exact fr_vret (pc := 221) O dX4_actOn_221 h
def qX4_actOn_B66 (a1 : Int32) (a2 : Int32) (a3 : Int32) (post : Mem → Prop) (x4 : Int32) (s0 : Int32) (σ : Mem) : Prop := (vp_in (a1 + (35 : Int32)) 234 ∧ (∀ σ81 : Mem, σ81 = up2 σ 1 (a1 + (35 : Int32)).toNatClampNeg (x4 - s0) → (vp_in (a1 + (37 : Int32)) 234 ∧ (∀ σ95 : Mem, σ95 = up2 σ81 1 (a1 + (37 : Int32)).toNatClampNeg ((σ81 1 (a1 + (37 : Int32)).toNatClampNeg) + s0) → (vp_in (a1 + (38 : Int32)) 234 ∧ (∀ σ114 : Mem, σ114 = up2 σ95 1 (a1 + (38 : Int32)).toNatClampNeg ((σ95 1 (a1 + (38 : Int32)).toNatClampNeg) + ((a2 - (100 : Int32)) - s0)) → qX4_actOn_B221 a1 a2 a3 post σ114))))))
set_option maxRecDepth 20000 in
theorem kX4_actOn_B66 {X : Cx} {G : Gw} (hG : fw_IsM G) (O : fw_Ok X G cX4_actOn 6 RX4 1 27 none) {a1 : Int32} {a2 : Int32} {a3 : Int32} {post : Mem → Prop}   {x4 : Int32} {s0 : Int32} {σ : Mem} (h : qX4_actOn_B66 a1 a2 a3 post x4 s0 σ) : fw_At X G 6 (fw_QV X G post) 66 [(0, .ref (gad G 0)), (1, .int a1), (2, .int a2), (3, .int a3), (4, .int x4)] [.int s0] σ := by
  unfold qX4_actOn_B66 at h
  refine fr_istore (pc := 66) O [1, 2, 3, 4, 5, 0] (lv' := [(0, .ref (gad G 0)), (1, .int a1), (2, .int a2), (3, .int a3), (4, .int x4), (5, .int s0)]) dX4_actOn_66 (by decide) rfl ?_
  refine fr_aload_n (pc := 68) O 0 dX4_actOn_68 rfl rfl ?_
  refine fr_get (pc := 69) (k := 0) (v := .ref (gad G 1)) O cl_X4 m_713 (sM_0 hG) (by decide) rfl rfl dX4_actOn_69 ?_
  refine fr_iload_n (pc := 72) O 1 dX4_actOn_72 rfl rfl ?_
  refine fr_bipush (pc := 73) O (v := (35 : Int32)) dX4_actOn_73 (by decide) ?_
  refine fr_iadd (pc := 75) O dX4_actOn_75 ?_
  refine fr_iload (pc := 76) O 4 dX4_actOn_76 rfl ?_
  refine fr_iload (pc := 78) O 5 dX4_actOn_78 rfl ?_
  refine fr_isub (pc := 80) O dX4_actOn_80 ?_
  have hi_81 := h.1
  have h := h.2
  refine fr_iast (pc := 81) O (sM_1 hG) hi_81 dX4_actOn_81 (fun σ81 e_σ81 => ?_)
  have h := h σ81 e_σ81
  refine fr_aload_n (pc := 82) O 0 dX4_actOn_82 rfl rfl ?_
  refine fr_get (pc := 83) (k := 0) (v := .ref (gad G 1)) O cl_X4 m_713 (sM_0 hG) (by decide) rfl rfl dX4_actOn_83 ?_
  refine fr_iload_n (pc := 86) O 1 dX4_actOn_86 rfl rfl ?_
  refine fr_bipush (pc := 87) O (v := (37 : Int32)) dX4_actOn_87 (by decide) ?_
  refine fr_iadd (pc := 89) O dX4_actOn_89 ?_
  refine fr_dup2 (pc := 90) O dX4_actOn_90 rfl rfl ?_
  have hi_91 := h.1
  have h := h.2
  refine fr_iald (pc := 91) O (sM_1 hG) hi_91 dX4_actOn_91 ?_
  refine fr_iload (pc := 92) O 5 dX4_actOn_92 rfl ?_
  refine fr_iadd (pc := 94) O dX4_actOn_94 ?_
  refine fr_iast (pc := 95) O (sM_1 hG) hi_91 dX4_actOn_95 (fun σ95 e_σ95 => ?_)
  have h := h σ95 e_σ95
  refine fr_aload_n (pc := 96) O 0 dX4_actOn_96 rfl rfl ?_
  refine fr_get (pc := 97) (k := 0) (v := .ref (gad G 1)) O cl_X4 m_713 (sM_0 hG) (by decide) rfl rfl dX4_actOn_97 ?_
  refine fr_iload_n (pc := 100) O 1 dX4_actOn_100 rfl rfl ?_
  refine fr_bipush (pc := 101) O (v := (38 : Int32)) dX4_actOn_101 (by decide) ?_
  refine fr_iadd (pc := 103) O dX4_actOn_103 ?_
  refine fr_dup2 (pc := 104) O dX4_actOn_104 rfl rfl ?_
  have hi_105 := h.1
  have h := h.2
  refine fr_iald (pc := 105) O (sM_1 hG) hi_105 dX4_actOn_105 ?_
  refine fr_iload_n (pc := 106) O 2 dX4_actOn_106 rfl rfl ?_
  refine fr_bipush (pc := 107) O (v := (100 : Int32)) dX4_actOn_107 (by decide) ?_
  refine fr_isub (pc := 109) O dX4_actOn_109 ?_
  refine fr_iload (pc := 110) O 5 dX4_actOn_110 rfl ?_
  refine fr_isub (pc := 112) O dX4_actOn_112 ?_
  refine fr_iadd (pc := 113) O dX4_actOn_113 ?_
  refine fr_iast (pc := 114) O (sM_1 hG) hi_105 dX4_actOn_114 (fun σ114 e_σ114 => ?_)
  have h := h σ114 e_σ114
  refine fr_goto (pc := 115) (tgt := 221) O dX4_actOn_115 (by decide) ?_
  refine fw_sub (lv' := [(0, .ref (gad G 0)), (1, .int a1), (2, .int a2), (3, .int a3)]) [0, 1, 2, 3] rfl ?_
  exact kX4_actOn_B221 hG O  h
def qX4_actOn_B25 (a1 : Int32) (a2 : Int32) (a3 : Int32) (post : Mem → Prop) (s1 : Int32) (s2 : Int32) (s3 : Int32) (σ : Mem) : Prop := (vp_in s1 234 ∧ (∀ σ26 : Mem, σ26 = up2 σ 1 s1.toNatClampNeg (s2 + s3) → qX4_actOn_B221 a1 a2 a3 post σ26))
set_option maxRecDepth 20000 in
theorem kX4_actOn_B25 {X : Cx} {G : Gw} (hG : fw_IsM G) (O : fw_Ok X G cX4_actOn 6 RX4 1 27 none) {a1 : Int32} {a2 : Int32} {a3 : Int32} {post : Mem → Prop}   {s1 : Int32} {s2 : Int32} {s3 : Int32} {σ : Mem} (h : qX4_actOn_B25 a1 a2 a3 post s1 s2 s3 σ) : fw_At X G 6 (fw_QV X G post) 25 [(0, .ref (gad G 0)), (1, .int a1), (2, .int a2), (3, .int a3)] [.int s3, .int s2, .int s1, .ref (gad G 1)] σ := by
  unfold qX4_actOn_B25 at h
  refine fr_iadd (pc := 25) O dX4_actOn_25 ?_
  have hi_26 := h.1
  have h := h.2
  refine fr_iast (pc := 26) O (sM_1 hG) hi_26 dX4_actOn_26 (fun σ26 e_σ26 => ?_)
  have h := h σ26 e_σ26
  refine fr_goto (pc := 27) (tgt := 221) O dX4_actOn_27 (by decide) ?_
  exact kX4_actOn_B221 hG O  h
def qX4_actOn (a1 : Int32) (a2 : Int32) (a3 : Int32) (σ : Mem) (post : Mem → Prop) : Prop := (((100 : Int32) ≤ a2 → (((200 : Int32) ≤ a2 → (vp_in (a1 + (16 : Int32)) 234 ∧ (((σ 1 (a1 + (16 : Int32)).toNatClampNeg) ≤ (a2 - (200 : Int32)) → qX4_actOn_B221 a1 a2 a3 post σ) ∧ (¬ (σ 1 (a1 + (16 : Int32)).toNatClampNeg) ≤ (a2 - (200 : Int32)) → (((a2 - (200 : Int32)) = (σ 0 14) → qX4_actOn_B221 a1 a2 a3 post σ) ∧ (¬ (a2 - (200 : Int32)) = (σ 0 14) → (∀ y4_152 : Int32, y4_152 = a2 - (200 : Int32) → (vp_in ((a1 + (12 : Int32)) + y4_152) 234 ∧ (vp_in (a1 + (35 : Int32)) 234 ∧ (∀ y5_176 : Int32, y5_176 = (σ 1 ((a1 + (12 : Int32)) + y4_152).toNatClampNeg) + (σ 1 (a1 + (35 : Int32)).toNatClampNeg) → (qX4_joinedOn a1 y4_152 σ (fun r193 σ193 => (∀ σ196 : Mem, σ196 = up2 σ193 1 ((a1 + (12 : Int32)) + y4_152).toNatClampNeg r193 → (∀ σ220 : Mem, σ220 = up2 σ196 1 (a1 + (35 : Int32)).toNatClampNeg (y5_176 - (σ196 1 ((a1 + (12 : Int32)) + y4_152).toNatClampNeg)) → qX4_actOn_B221 a1 a2 a3 post σ220)))))))))))))) ∧ (¬ (200 : Int32) ≤ a2 → (vp_in (a1 + (35 : Int32)) 234 ∧ (∀ y4_46 : Int32, y4_46 = σ 1 (a1 + (35 : Int32)).toNatClampNeg → (((a2 - (100 : Int32)) ≤ y4_46 → qX4_actOn_B66 a1 a2 a3 post y4_46 (a2 - (100 : Int32)) σ) ∧ (¬ (a2 - (100 : Int32)) ≤ y4_46 → qX4_actOn_B66 a1 a2 a3 post y4_46 y4_46 σ))))))) ∧ (¬ (100 : Int32) ≤ a2 → (vp_in (a1 + (35 : Int32)) 234 ∧ ((a3 = 0 → qX4_actOn_B25 a1 a2 a3 post (a1 + (35 : Int32)) (σ 1 (a1 + (35 : Int32)).toNatClampNeg) a2 σ) ∧ (¬ a3 = 0 → qX4_actOn_B25 a1 a2 a3 post (a1 + (35 : Int32)) (σ 1 (a1 + (35 : Int32)).toNatClampNeg) (0 : Int32) σ)))))
set_option maxRecDepth 20000 in
theorem kX4_actOn {X : Cx} {G : Gw} (hG : fw_IsM G) (O : fw_Ok X G cX4_actOn 6 RX4 1 27 none) {a1 : Int32} {a2 : Int32} {a3 : Int32}  {σ : Mem} {post : Mem → Prop} (h : qX4_actOn a1 a2 a3 σ post) : fw_At X G 6 (fw_QV X G post) 0 [(0, .ref (gad G 0)), (1, .int a1), (2, .int a2), (3, .int a3)] [] σ := by
  unfold qX4_actOn at h
  refine fr_iload_n (pc := 0) O 2 dX4_actOn_0 rfl rfl ?_
  refine fr_bipush (pc := 1) O (v := (100 : Int32)) dX4_actOn_1 (by decide) ?_
  refine fr_icmp_ge (pc := 3) (tgt := 30) O dX4_actOn_3 (by decide) (fun c_3 => ?_) (fun c_3 => ?_)
  · have h := h.1 c_3
    refine fr_iload_n (pc := 30) O 2 dX4_actOn_30 rfl rfl ?_
    refine fr_sipush (pc := 31) O (v := (200 : Int32)) dX4_actOn_31 (by decide) ?_
    refine fr_icmp_ge (pc := 34) (tgt := 118) O dX4_actOn_34 (by decide) (fun c_34 => ?_) (fun c_34 => ?_)
    · have h := h.1 c_34
      refine fr_iload_n (pc := 118) O 2 dX4_actOn_118 rfl rfl ?_
      refine fr_sipush (pc := 119) O (v := (200 : Int32)) dX4_actOn_119 (by decide) ?_
      refine fr_isub (pc := 122) O dX4_actOn_122 ?_
      refine fr_aload_n (pc := 123) O 0 dX4_actOn_123 rfl rfl ?_
      refine fr_get (pc := 124) (k := 0) (v := .ref (gad G 1)) O cl_X4 m_713 (sM_0 hG) (by decide) rfl rfl dX4_actOn_124 ?_
      refine fr_iload_n (pc := 127) O 1 dX4_actOn_127 rfl rfl ?_
      refine fr_bipush (pc := 128) O (v := (16 : Int32)) dX4_actOn_128 (by decide) ?_
      refine fr_iadd (pc := 130) O dX4_actOn_130 ?_
      have hi_131 := h.1
      have h := h.2
      refine fr_iald (pc := 131) O (sM_1 hG) hi_131 dX4_actOn_131 ?_
      refine fr_icmp_ge (pc := 132) (tgt := 221) O dX4_actOn_132 (by decide) (fun c_132 => ?_) (fun c_132 => ?_)
      · have h := h.1 c_132
        exact kX4_actOn_B221 hG O  h
      · have h := h.2 c_132
        refine fr_iload_n (pc := 135) O 2 dX4_actOn_135 rfl rfl ?_
        refine fr_sipush (pc := 136) O (v := (200 : Int32)) dX4_actOn_136 (by decide) ?_
        refine fr_isub (pc := 139) O dX4_actOn_139 ?_
        refine fr_aload_n (pc := 140) O 0 dX4_actOn_140 rfl rfl ?_
        refine fr_get (pc := 141) (k := 14) (v := .int (σ 0 14)) O cl_X4 m_727 (sM_0 hG) (by decide) rfl rfl dX4_actOn_141 ?_
        refine fr_icmp_eq (pc := 144) (tgt := 221) O dX4_actOn_144 (by decide) (fun c_144 => ?_) (fun c_144 => ?_)
        · have h := h.1 c_144
          exact kX4_actOn_B221 hG O  h
        · have h := h.2 c_144
          refine fr_iload_n (pc := 147) O 2 dX4_actOn_147 rfl rfl ?_
          refine fr_sipush (pc := 148) O (v := (200 : Int32)) dX4_actOn_148 (by decide) ?_
          refine fr_isub (pc := 151) O dX4_actOn_151 ?_
          refine fr_nm (fun y4_152 e_y4_152 => ?_)
          have h := h y4_152 e_y4_152
          refine fr_istore (pc := 152) O [1, 2, 3, 4, 0] (lv' := [(0, .ref (gad G 0)), (1, .int a1), (2, .int a2), (3, .int a3), (4, .int y4_152)]) dX4_actOn_152 (by decide) rfl ?_
          refine fr_aload_n (pc := 154) O 0 dX4_actOn_154 rfl rfl ?_
          refine fr_get (pc := 155) (k := 0) (v := .ref (gad G 1)) O cl_X4 m_713 (sM_0 hG) (by decide) rfl rfl dX4_actOn_155 ?_
          refine fr_iload_n (pc := 158) O 1 dX4_actOn_158 rfl rfl ?_
          refine fr_bipush (pc := 159) O (v := (12 : Int32)) dX4_actOn_159 (by decide) ?_
          refine fr_iadd (pc := 161) O dX4_actOn_161 ?_
          refine fr_iload (pc := 162) O 4 dX4_actOn_162 rfl ?_
          refine fr_iadd (pc := 164) O dX4_actOn_164 ?_
          have hi_165 := h.1
          have h := h.2
          refine fr_iald (pc := 165) O (sM_1 hG) hi_165 dX4_actOn_165 ?_
          refine fr_aload_n (pc := 166) O 0 dX4_actOn_166 rfl rfl ?_
          refine fr_get (pc := 167) (k := 0) (v := .ref (gad G 1)) O cl_X4 m_713 (sM_0 hG) (by decide) rfl rfl dX4_actOn_167 ?_
          refine fr_iload_n (pc := 170) O 1 dX4_actOn_170 rfl rfl ?_
          refine fr_bipush (pc := 171) O (v := (35 : Int32)) dX4_actOn_171 (by decide) ?_
          refine fr_iadd (pc := 173) O dX4_actOn_173 ?_
          have hi_174 := h.1
          have h := h.2
          refine fr_iald (pc := 174) O (sM_1 hG) hi_174 dX4_actOn_174 ?_
          refine fr_iadd (pc := 175) O dX4_actOn_175 ?_
          refine fr_nm (fun y5_176 e_y5_176 => ?_)
          have h := h y5_176 e_y5_176
          refine fr_istore (pc := 176) O [1, 2, 3, 4, 5, 0] (lv' := [(0, .ref (gad G 0)), (1, .int a1), (2, .int a2), (3, .int a3), (4, .int y4_152), (5, .int y5_176)]) dX4_actOn_176 (by decide) rfl ?_
          refine fr_aload_n (pc := 178) O 0 dX4_actOn_178 rfl rfl ?_
          refine fr_get (pc := 179) (k := 0) (v := .ref (gad G 1)) O cl_X4 m_713 (sM_0 hG) (by decide) rfl rfl dX4_actOn_179 ?_
          refine fr_iload_n (pc := 182) O 1 dX4_actOn_182 rfl rfl ?_
          refine fr_bipush (pc := 183) O (v := (12 : Int32)) dX4_actOn_183 (by decide) ?_
          refine fr_iadd (pc := 185) O dX4_actOn_185 ?_
          refine fr_iload (pc := 186) O 4 dX4_actOn_186 rfl ?_
          refine fr_iadd (pc := 188) O dX4_actOn_188 ?_
          refine fr_aload_n (pc := 189) O 0 dX4_actOn_189 rfl rfl ?_
          refine fr_iload_n (pc := 190) O 1 dX4_actOn_190 rfl rfl ?_
          refine fr_iload (pc := 191) O 4 dX4_actOn_191 rfl ?_
          refine fr_callVI (pc := 193) (st := [.int ((a1 + (12 : Int32)) + y4_152), .ref (gad G 1)]) O (tX4_joinedOn X.2.1 hG  h) mt_X4_joinedOn mv_X4_joinedOn m_862 cl_X4 rfl (sM_0 hG) rfl (by decide) rfl (Nat.le_of_ble_eq_true rfl) dX4_actOn_193 (fun r193 σ193 h => ?_)
          refine fr_iast (pc := 196) O (sM_1 hG) hi_165 dX4_actOn_196 (fun σ196 e_σ196 => ?_)
          have h := h σ196 e_σ196
          refine fr_aload_n (pc := 197) O 0 dX4_actOn_197 rfl rfl ?_
          refine fr_get (pc := 198) (k := 0) (v := .ref (gad G 1)) O cl_X4 m_713 (sM_0 hG) (by decide) rfl rfl dX4_actOn_198 ?_
          refine fr_iload_n (pc := 201) O 1 dX4_actOn_201 rfl rfl ?_
          refine fr_bipush (pc := 202) O (v := (35 : Int32)) dX4_actOn_202 (by decide) ?_
          refine fr_iadd (pc := 204) O dX4_actOn_204 ?_
          refine fr_iload (pc := 205) O 5 dX4_actOn_205 rfl ?_
          refine fr_aload_n (pc := 207) O 0 dX4_actOn_207 rfl rfl ?_
          refine fr_get (pc := 208) (k := 0) (v := .ref (gad G 1)) O cl_X4 m_713 (sM_0 hG) (by decide) rfl rfl dX4_actOn_208 ?_
          refine fr_iload_n (pc := 211) O 1 dX4_actOn_211 rfl rfl ?_
          refine fr_bipush (pc := 212) O (v := (12 : Int32)) dX4_actOn_212 (by decide) ?_
          refine fr_iadd (pc := 214) O dX4_actOn_214 ?_
          refine fr_iload (pc := 215) O 4 dX4_actOn_215 rfl ?_
          refine fr_iadd (pc := 217) O dX4_actOn_217 ?_
          refine fr_iald (pc := 218) O (sM_1 hG) hi_165 dX4_actOn_218 ?_
          refine fr_isub (pc := 219) O dX4_actOn_219 ?_
          refine fr_iast (pc := 220) O (sM_1 hG) hi_174 dX4_actOn_220 (fun σ220 e_σ220 => ?_)
          have h := h σ220 e_σ220
          refine fw_sub (lv' := [(0, .ref (gad G 0)), (1, .int a1), (2, .int a2), (3, .int a3)]) [0, 1, 2, 3] rfl ?_
          exact kX4_actOn_B221 hG O  h
    · have h := h.2 c_34
      refine fr_aload_n (pc := 37) O 0 dX4_actOn_37 rfl rfl ?_
      refine fr_get (pc := 38) (k := 0) (v := .ref (gad G 1)) O cl_X4 m_713 (sM_0 hG) (by decide) rfl rfl dX4_actOn_38 ?_
      refine fr_iload_n (pc := 41) O 1 dX4_actOn_41 rfl rfl ?_
      refine fr_bipush (pc := 42) O (v := (35 : Int32)) dX4_actOn_42 (by decide) ?_
      refine fr_iadd (pc := 44) O dX4_actOn_44 ?_
      have hi_45 := h.1
      have h := h.2
      refine fr_iald (pc := 45) O (sM_1 hG) hi_45 dX4_actOn_45 ?_
      refine fr_nm (fun y4_46 e_y4_46 => ?_)
      have h := h y4_46 e_y4_46
      refine fr_istore (pc := 46) O [1, 2, 3, 4, 0] (lv' := [(0, .ref (gad G 0)), (1, .int a1), (2, .int a2), (3, .int a3), (4, .int y4_46)]) dX4_actOn_46 (by decide) rfl ?_
      refine fr_iload_n (pc := 48) O 2 dX4_actOn_48 rfl rfl ?_
      refine fr_bipush (pc := 49) O (v := (100 : Int32)) dX4_actOn_49 (by decide) ?_
      refine fr_isub (pc := 51) O dX4_actOn_51 ?_
      refine fr_iload (pc := 52) O 4 dX4_actOn_52 rfl ?_
      refine fr_icmp_le (pc := 54) (tgt := 62) O dX4_actOn_54 (by decide) (fun c_54 => ?_) (fun c_54 => ?_)
      · have h := h.1 c_54
        refine fr_iload_n (pc := 62) O 2 dX4_actOn_62 rfl rfl ?_
        refine fr_bipush (pc := 63) O (v := (100 : Int32)) dX4_actOn_63 (by decide) ?_
        refine fr_isub (pc := 65) O dX4_actOn_65 ?_
        exact kX4_actOn_B66 hG O  h
      · have h := h.2 c_54
        refine fr_iload (pc := 57) O 4 dX4_actOn_57 rfl ?_
        refine fr_goto (pc := 59) (tgt := 66) O dX4_actOn_59 (by decide) ?_
        exact kX4_actOn_B66 hG O  h
  · have h := h.2 c_3
    refine fr_aload_n (pc := 6) O 0 dX4_actOn_6 rfl rfl ?_
    refine fr_get (pc := 7) (k := 0) (v := .ref (gad G 1)) O cl_X4 m_713 (sM_0 hG) (by decide) rfl rfl dX4_actOn_7 ?_
    refine fr_iload_n (pc := 10) O 1 dX4_actOn_10 rfl rfl ?_
    refine fr_bipush (pc := 11) O (v := (35 : Int32)) dX4_actOn_11 (by decide) ?_
    refine fr_iadd (pc := 13) O dX4_actOn_13 ?_
    refine fr_dup2 (pc := 14) O dX4_actOn_14 rfl rfl ?_
    have hi_15 := h.1
    have h := h.2
    refine fr_iald (pc := 15) O (sM_1 hG) hi_15 dX4_actOn_15 ?_
    refine fr_iload_n (pc := 16) O 3 dX4_actOn_16 rfl rfl ?_
    refine fr_if_eq (pc := 17) (tgt := 24) O dX4_actOn_17 (by decide) (fun c_17 => ?_) (fun c_17 => ?_)
    · have h := h.1 c_17
      refine fr_iload_n (pc := 24) O 2 dX4_actOn_24 rfl rfl ?_
      exact kX4_actOn_B25 hG O  h
    · have h := h.2 c_17
      refine fr_iconst (pc := 20) O (v := (0 : Int32)) dX4_actOn_20 (by decide) ?_
      refine fr_goto (pc := 21) (tgt := 25) O dX4_actOn_21 (by decide) ?_
      exact kX4_actOn_B25 hG O  h
theorem tX4_actOn (l : Launch) {G : Gw} (hG : fw_IsM G) {a1 : Int32} {a2 : Int32} {a3 : Int32}  {σ : Mem} {post : Mem → Prop} (h : qX4_actOn a1 a2 a3 σ post) : fw_CV l G yX4_actOn cX4_actOn 6 1 27 [.ref (gad G 0), .int a1, .int a2, .int a3] σ post := fw_ofV (sok_M hG) (by decide) (Nat.le_of_ble_eq_true rfl) (fun X O => kX4_actOn hG O  h)
def qX4_lossesOn_B123 (a1 : Int32) (post : Mem → Prop) (s1 : Int32) (σ : Mem) : Prop := (∀ σ123 : Mem, σ123 = up2 σ 0 17 s1 → post σ123)
set_option maxRecDepth 20000 in
theorem kX4_lossesOn_B123 {X : Cx} {G : Gw} (hG : fw_IsM G) (O : fw_Ok X G cX4_lossesOn 6 RX4 1 21 none) {a1 : Int32} {post : Mem → Prop}   {s1 : Int32} {σ : Mem} (h : qX4_lossesOn_B123 a1 post s1 σ) : fw_At X G 6 (fw_QV X G post) 123 [(0, .ref (gad G 0)), (1, .int a1)] [.int s1, .ref (gad G 0)] σ := by
  unfold qX4_lossesOn_B123 at h
  refine fr_put (pc := 123) (k := 17) O cl_X4 m_730 (sM_0 hG) (by decide) rfl rfl rfl rfl (fun _ => Nat.le_of_ble_eq_true rfl) (fun _ => rfl) dX4_lossesOn_123 (fun σ123 e_σ123 => ?_)
  have h := h σ123 e_σ123
  exact fr_vret (pc := 126) O dX4_lossesOn_126 h
def qX4_lossesOn_B52 (a1 : Int32) (post : Mem → Prop) (k2 : Int32 → Mem → Prop) (x2 : Int32) (x4 : Int32) (s0 : Int32) (σ : Mem) : Prop := (vp_in ((a1 + (12 : Int32)) + x2) 234 ∧ (∀ σ69 : Mem, σ69 = up2 σ 1 ((a1 + (12 : Int32)) + x2).toNatClampNeg (x4 - s0) → (∀ σ78 : Mem, σ78 = up2 σ69 0 16 ((σ69 0 16) + s0) → (∀ y2_81 : Int32, y2_81 = x2 + (1 : Int32) → k2 y2_81 σ78))))
set_option maxRecDepth 20000 in
theorem kX4_lossesOn_B52 {X : Cx} {G : Gw} (hG : fw_IsM G) (O : fw_Ok X G cX4_lossesOn 6 RX4 1 21 none) {a1 : Int32} {post : Mem → Prop} {k2 : Int32 → Mem → Prop}  (hk2 : ∀ (x2 : Int32) (σ : Mem), k2 x2 σ → fw_At X G 6 (fw_QV X G post) 2 [(0, .ref (gad G 0)), (1, .int a1), (2, .int x2)] [] σ) {x2 : Int32} {x4 : Int32} {s0 : Int32} {σ : Mem} (h : qX4_lossesOn_B52 a1 post k2 x2 x4 s0 σ) : fw_At X G 6 (fw_QV X G post) 52 [(0, .ref (gad G 0)), (1, .int a1), (2, .int x2), (4, .int x4)] [.int s0] σ := by
  unfold qX4_lossesOn_B52 at h
  refine fr_istore (pc := 52) O [1, 2, 3, 4, 0] (lv' := [(0, .ref (gad G 0)), (1, .int a1), (2, .int x2), (4, .int x4), (5, .int s0)]) dX4_lossesOn_52 (by decide) rfl ?_
  refine fr_aload_n (pc := 54) O 0 dX4_lossesOn_54 rfl rfl ?_
  refine fr_get (pc := 55) (k := 0) (v := .ref (gad G 1)) O cl_X4 m_713 (sM_0 hG) (by decide) rfl rfl dX4_lossesOn_55 ?_
  refine fr_iload_n (pc := 58) O 1 dX4_lossesOn_58 rfl rfl ?_
  refine fr_bipush (pc := 59) O (v := (12 : Int32)) dX4_lossesOn_59 (by decide) ?_
  refine fr_iadd (pc := 61) O dX4_lossesOn_61 ?_
  refine fr_iload_n (pc := 62) O 2 dX4_lossesOn_62 rfl rfl ?_
  refine fr_iadd (pc := 63) O dX4_lossesOn_63 ?_
  refine fr_iload (pc := 64) O 3 dX4_lossesOn_64 rfl ?_
  refine fr_iload (pc := 66) O 4 dX4_lossesOn_66 rfl ?_
  refine fr_isub (pc := 68) O dX4_lossesOn_68 ?_
  have hi_69 := h.1
  have h := h.2
  refine fr_iast (pc := 69) O (sM_1 hG) hi_69 dX4_lossesOn_69 (fun σ69 e_σ69 => ?_)
  have h := h σ69 e_σ69
  refine fr_aload_n (pc := 70) O 0 dX4_lossesOn_70 rfl rfl ?_
  refine fr_dup (pc := 71) O dX4_lossesOn_71 rfl ?_
  refine fr_get (pc := 72) (k := 16) (v := .int (σ69 0 16)) O cl_X4 m_729 (sM_0 hG) (by decide) rfl rfl dX4_lossesOn_72 ?_
  refine fr_iload (pc := 75) O 4 dX4_lossesOn_75 rfl ?_
  refine fr_iadd (pc := 77) O dX4_lossesOn_77 ?_
  refine fr_put (pc := 78) (k := 16) O cl_X4 m_729 (sM_0 hG) (by decide) rfl rfl rfl rfl (fun _ => Nat.le_of_ble_eq_true rfl) (fun _ => rfl) dX4_lossesOn_78 (fun σ78 e_σ78 => ?_)
  have h := h σ78 e_σ78
  refine fr_iinc (pc := 81) O 2 [1, 2, 0, 3, 4] (w := (1 : Int32)) (lvF := fun y2_81 => [(0, .ref (gad G 0)), (1, .int a1), (2, .int y2_81), (4, .int x4), (5, .int s0)]) dX4_lossesOn_81 rfl (by decide) (by decide) (fun _ => rfl) (fun y2_81 e_y2_81 => ?_)
  have h := h y2_81 e_y2_81
  refine fr_goto (pc := 84) (tgt := 2) O dX4_lossesOn_84 (by decide) ?_
  refine fw_sub (lv' := [(0, .ref (gad G 0)), (1, .int a1), (2, .int y2_81)]) [0, 1, 2] rfl ?_
  exact hk2 _ _ h
def qX4_lossesOn_L2 (a1 : Int32) (post : Mem → Prop) (k2 : Int32 → Mem → Prop) (x2 : Int32) (σ : Mem) : Prop := (vp_in (a1 + (16 : Int32)) 234 ∧ (((σ 1 (a1 + (16 : Int32)).toNatClampNeg) ≤ x2 → (vp_in (a1 + (36 : Int32)) 234 ∧ (∀ σ99 : Mem, σ99 = up2 σ 1 (a1 + (36 : Int32)).toNatClampNeg ((σ 1 (a1 + (36 : Int32)).toNatClampNeg) + (1 : Int32)) → (qX4_speedOn a1 σ99 (fun r102 σ102 => ((r102 ≤ (σ102 0 17) → qX4_lossesOn_B123 a1 post (σ102 0 17) σ102) ∧ (¬ r102 ≤ (σ102 0 17) → qX4_lossesOn_B123 a1 post r102 σ102))))))) ∧ (¬ (σ 1 (a1 + (16 : Int32)).toNatClampNeg) ≤ x2 → (vp_in ((a1 + (8 : Int32)) + x2) 234 ∧ (∀ y3_26 : Int32, y3_26 = σ 1 ((a1 + (8 : Int32)) + x2).toNatClampNeg → (vp_in ((a1 + (12 : Int32)) + x2) 234 ∧ (∀ y4_38 : Int32, y4_38 = σ 1 ((a1 + (12 : Int32)) + x2).toNatClampNeg → ((y3_26 ≤ y4_38 → qX4_lossesOn_B52 a1 post k2 x2 y4_38 y3_26 σ) ∧ (¬ y3_26 ≤ y4_38 → qX4_lossesOn_B52 a1 post k2 x2 y4_38 y4_38 σ)))))))))
set_option maxRecDepth 20000 in
theorem kX4_lossesOn_L2 {X : Cx} {G : Gw} (hG : fw_IsM G) (O : fw_Ok X G cX4_lossesOn 6 RX4 1 21 none) {a1 : Int32} {post : Mem → Prop} {k2 : Int32 → Mem → Prop}  (hk2 : ∀ (x2 : Int32) (σ : Mem), k2 x2 σ → fw_At X G 6 (fw_QV X G post) 2 [(0, .ref (gad G 0)), (1, .int a1), (2, .int x2)] [] σ) {x2 : Int32} {σ : Mem} (h : qX4_lossesOn_L2 a1 post k2 x2 σ) : fw_At X G 6 (fw_QV X G post) 2 [(0, .ref (gad G 0)), (1, .int a1), (2, .int x2)] [] σ := by
  unfold qX4_lossesOn_L2 at h
  refine fr_iload_n (pc := 2) O 2 dX4_lossesOn_2 rfl rfl ?_
  refine fr_aload_n (pc := 3) O 0 dX4_lossesOn_3 rfl rfl ?_
  refine fr_get (pc := 4) (k := 0) (v := .ref (gad G 1)) O cl_X4 m_713 (sM_0 hG) (by decide) rfl rfl dX4_lossesOn_4 ?_
  refine fr_iload_n (pc := 7) O 1 dX4_lossesOn_7 rfl rfl ?_
  refine fr_bipush (pc := 8) O (v := (16 : Int32)) dX4_lossesOn_8 (by decide) ?_
  refine fr_iadd (pc := 10) O dX4_lossesOn_10 ?_
  have hi_11 := h.1
  have h := h.2
  refine fr_iald (pc := 11) O (sM_1 hG) hi_11 dX4_lossesOn_11 ?_
  refine fr_icmp_ge (pc := 12) (tgt := 87) O dX4_lossesOn_12 (by decide) (fun c_12 => ?_) (fun c_12 => ?_)
  · have h := h.1 c_12
    refine fr_aload_n (pc := 87) O 0 dX4_lossesOn_87 rfl rfl ?_
    refine fr_get (pc := 88) (k := 0) (v := .ref (gad G 1)) O cl_X4 m_713 (sM_0 hG) (by decide) rfl rfl dX4_lossesOn_88 ?_
    refine fr_iload_n (pc := 91) O 1 dX4_lossesOn_91 rfl rfl ?_
    refine fr_bipush (pc := 92) O (v := (36 : Int32)) dX4_lossesOn_92 (by decide) ?_
    refine fr_iadd (pc := 94) O dX4_lossesOn_94 ?_
    refine fr_dup2 (pc := 95) O dX4_lossesOn_95 rfl rfl ?_
    have hi_96 := h.1
    have h := h.2
    refine fr_iald (pc := 96) O (sM_1 hG) hi_96 dX4_lossesOn_96 ?_
    refine fr_iconst (pc := 97) O (v := (1 : Int32)) dX4_lossesOn_97 (by decide) ?_
    refine fr_iadd (pc := 98) O dX4_lossesOn_98 ?_
    refine fr_iast (pc := 99) O (sM_1 hG) hi_96 dX4_lossesOn_99 (fun σ99 e_σ99 => ?_)
    have h := h σ99 e_σ99
    refine fr_aload_n (pc := 100) O 0 dX4_lossesOn_100 rfl rfl ?_
    refine fr_iload_n (pc := 101) O 1 dX4_lossesOn_101 rfl rfl ?_
    refine fr_callVI (pc := 102) (st := []) O (tX4_speedOn X.2.1 hG  h) mt_X4_speedOn mv_X4_speedOn m_849 cl_X4 rfl (sM_0 hG) rfl (by decide) rfl (Nat.le_of_ble_eq_true rfl) dX4_lossesOn_102 (fun r102 σ102 h => ?_)
    refine fr_istore_n (pc := 105) O [1, 2, 0] (lv' := [(0, .ref (gad G 0)), (1, .int a1), (2, .int r102)]) dX4_lossesOn_105 rfl (by decide) rfl ?_
    refine fr_aload_n (pc := 106) O 0 dX4_lossesOn_106 rfl rfl ?_
    refine fr_iload_n (pc := 107) O 2 dX4_lossesOn_107 rfl rfl ?_
    refine fr_aload_n (pc := 108) O 0 dX4_lossesOn_108 rfl rfl ?_
    refine fr_get (pc := 109) (k := 17) (v := .int (σ102 0 17)) O cl_X4 m_730 (sM_0 hG) (by decide) rfl rfl dX4_lossesOn_109 ?_
    refine fr_icmp_le (pc := 112) (tgt := 119) O dX4_lossesOn_112 (by decide) (fun c_112 => ?_) (fun c_112 => ?_)
    · have h := h.1 c_112
      refine fr_aload_n (pc := 119) O 0 dX4_lossesOn_119 rfl rfl ?_
      refine fr_get (pc := 120) (k := 17) (v := .int (σ102 0 17)) O cl_X4 m_730 (sM_0 hG) (by decide) rfl rfl dX4_lossesOn_120 ?_
      refine fw_sub (lv' := [(0, .ref (gad G 0)), (1, .int a1)]) [0, 1] rfl ?_
      exact kX4_lossesOn_B123 hG O  h
    · have h := h.2 c_112
      refine fr_iload_n (pc := 115) O 2 dX4_lossesOn_115 rfl rfl ?_
      refine fr_goto (pc := 116) (tgt := 123) O dX4_lossesOn_116 (by decide) ?_
      refine fw_sub (lv' := [(0, .ref (gad G 0)), (1, .int a1)]) [0, 1] rfl ?_
      exact kX4_lossesOn_B123 hG O  h
  · have h := h.2 c_12
    refine fr_aload_n (pc := 15) O 0 dX4_lossesOn_15 rfl rfl ?_
    refine fr_get (pc := 16) (k := 0) (v := .ref (gad G 1)) O cl_X4 m_713 (sM_0 hG) (by decide) rfl rfl dX4_lossesOn_16 ?_
    refine fr_iload_n (pc := 19) O 1 dX4_lossesOn_19 rfl rfl ?_
    refine fr_bipush (pc := 20) O (v := (8 : Int32)) dX4_lossesOn_20 (by decide) ?_
    refine fr_iadd (pc := 22) O dX4_lossesOn_22 ?_
    refine fr_iload_n (pc := 23) O 2 dX4_lossesOn_23 rfl rfl ?_
    refine fr_iadd (pc := 24) O dX4_lossesOn_24 ?_
    have hi_25 := h.1
    have h := h.2
    refine fr_iald (pc := 25) O (sM_1 hG) hi_25 dX4_lossesOn_25 ?_
    refine fr_nm (fun y3_26 e_y3_26 => ?_)
    have h := h y3_26 e_y3_26
    refine fr_istore_n (pc := 26) O [1, 2, 3, 0] (lv' := [(0, .ref (gad G 0)), (1, .int a1), (2, .int x2), (3, .int y3_26)]) dX4_lossesOn_26 rfl (by decide) rfl ?_
    refine fr_aload_n (pc := 27) O 0 dX4_lossesOn_27 rfl rfl ?_
    refine fr_get (pc := 28) (k := 0) (v := .ref (gad G 1)) O cl_X4 m_713 (sM_0 hG) (by decide) rfl rfl dX4_lossesOn_28 ?_
    refine fr_iload_n (pc := 31) O 1 dX4_lossesOn_31 rfl rfl ?_
    refine fr_bipush (pc := 32) O (v := (12 : Int32)) dX4_lossesOn_32 (by decide) ?_
    refine fr_iadd (pc := 34) O dX4_lossesOn_34 ?_
    refine fr_iload_n (pc := 35) O 2 dX4_lossesOn_35 rfl rfl ?_
    refine fr_iadd (pc := 36) O dX4_lossesOn_36 ?_
    have hi_37 := h.1
    have h := h.2
    refine fr_iald (pc := 37) O (sM_1 hG) hi_37 dX4_lossesOn_37 ?_
    refine fr_nm (fun y4_38 e_y4_38 => ?_)
    have h := h y4_38 e_y4_38
    refine fr_istore (pc := 38) O [1, 2, 3, 4, 0] (lv' := [(0, .ref (gad G 0)), (1, .int a1), (2, .int x2), (3, .int y3_26), (4, .int y4_38)]) dX4_lossesOn_38 (by decide) rfl ?_
    refine fr_iload_n (pc := 40) O 3 dX4_lossesOn_40 rfl rfl ?_
    refine fr_iload (pc := 41) O 4 dX4_lossesOn_41 rfl ?_
    refine fr_icmp_le (pc := 43) (tgt := 51) O dX4_lossesOn_43 (by decide) (fun c_43 => ?_) (fun c_43 => ?_)
    · have h := h.1 c_43
      refine fr_iload_n (pc := 51) O 3 dX4_lossesOn_51 rfl rfl ?_
      refine fw_sub (lv' := [(0, .ref (gad G 0)), (1, .int a1), (2, .int x2), (4, .int y4_38)]) [0, 1, 2, 4] rfl ?_
      exact kX4_lossesOn_B52 hG O hk2 h
    · have h := h.2 c_43
      refine fr_iload (pc := 46) O 4 dX4_lossesOn_46 rfl ?_
      refine fr_goto (pc := 48) (tgt := 52) O dX4_lossesOn_48 (by decide) ?_
      refine fw_sub (lv' := [(0, .ref (gad G 0)), (1, .int a1), (2, .int x2), (4, .int y4_38)]) [0, 1, 2, 4] rfl ?_
      exact kX4_lossesOn_B52 hG O hk2 h
set_option maxRecDepth 20000 in
theorem kX4_lossesOn_L2w {X : Cx} {G : Gw} (hG : fw_IsM G) (O : fw_Ok X G cX4_lossesOn 6 RX4 1 21 none) {a1 : Int32} {post : Mem → Prop}   {n9 : Nat} {x2 : Int32} {σ : Mem} (h : it1 (qX4_lossesOn_L2 a1 post) n9 x2 σ) : fw_At X G 6 (fw_QV X G post) 2 [(0, .ref (gad G 0)), (1, .int a1), (2, .int x2)] [] σ :=
  it1_walk (T := fun x2 σ => fw_At X G 6 (fw_QV X G post) 2 [(0, .ref (gad G 0)), (1, .int a1), (2, .int x2)] [] σ) (fun k2 hk2 x2 σ h => kX4_lossesOn_L2 hG O hk2 h) n9 x2 σ h
def qX4_lossesOn (a1 : Int32) (σ : Mem) (post : Mem → Prop) : Prop := ∃ n9, it1 (qX4_lossesOn_L2 a1 post) n9 (0 : Int32) σ
set_option maxRecDepth 20000 in
theorem kX4_lossesOn {X : Cx} {G : Gw} (hG : fw_IsM G) (O : fw_Ok X G cX4_lossesOn 6 RX4 1 21 none) {a1 : Int32}  {σ : Mem} {post : Mem → Prop} (h : qX4_lossesOn a1 σ post) : fw_At X G 6 (fw_QV X G post) 0 [(0, .ref (gad G 0)), (1, .int a1)] [] σ := by
  unfold qX4_lossesOn at h
  refine fr_iconst (pc := 0) O (v := (0 : Int32)) dX4_lossesOn_0 (by decide) ?_
  refine fr_istore_n (pc := 1) O [1, 2, 0] (lv' := [(0, .ref (gad G 0)), (1, .int a1), (2, .int (0 : Int32))]) dX4_lossesOn_1 rfl (by decide) rfl ?_
  obtain ⟨n9, h⟩ := h
  exact kX4_lossesOn_L2w hG O  h
theorem tX4_lossesOn (l : Launch) {G : Gw} (hG : fw_IsM G) {a1 : Int32}  {σ : Mem} {post : Mem → Prop} (h : qX4_lossesOn a1 σ post) : fw_CV l G yX4_lossesOn cX4_lossesOn 6 1 21 [.ref (gad G 0), .int a1] σ post := fw_ofV (sok_M hG) (by decide) (Nat.le_of_ble_eq_true rfl) (fun X O => kX4_lossesOn hG O  h)
def qX4_tickOn_B59 (a1 : Int32) (a2 : Int32) (post : Mem → Prop) (σ : Mem) : Prop := (qX4_lossesOn a1 σ (fun σ61 => post σ61))
set_option maxRecDepth 20000 in
theorem kX4_tickOn_B59 {X : Cx} {G : Gw} (hG : fw_IsM G) (O : fw_Ok X G cX4_tickOn 4 RX4 2 52 none) {a1 : Int32} {a2 : Int32} {post : Mem → Prop}    {σ : Mem} (h : qX4_tickOn_B59 a1 a2 post σ) : fw_At X G 4 (fw_QV X G post) 59 [(0, .ref (gad G 0)), (1, .int a1), (2, .int a2)] [] σ := by
  unfold qX4_tickOn_B59 at h
  refine fr_aload_n (pc := 59) O 0 dX4_tickOn_59 rfl rfl ?_
  refine fr_iload_n (pc := 60) O 1 dX4_tickOn_60 rfl rfl ?_
  refine fr_callVV (pc := 61) (st := []) O (tX4_lossesOn X.2.1 hG  h) mt_X4_lossesOn mv_X4_lossesOn m_932 cl_X4 rfl (sM_0 hG) rfl (by decide) rfl (Nat.le_of_ble_eq_true rfl) dX4_tickOn_61 (fun σ61 h => ?_)
  exact fr_vret (pc := 64) O dX4_tickOn_64 h
def qX4_tickOn (a1 : Int32) (a2 : Int32) (σ : Mem) (post : Mem → Prop) : Prop := (vp_in (a1 + (33 : Int32)) 234 ∧ (∀ y3_9 : Int32, y3_9 = σ 1 (a1 + (33 : Int32)).toNatClampNeg → ((y3_9 ≤ 0 → qX4_tickOn_B59 a1 a2 post σ) ∧ (¬ y3_9 ≤ 0 → (vp_in (a1 + (36 : Int32)) 234 ∧ (¬ y3_9 = 0 ∧ ((((σ 1 (a1 + (36 : Int32)).toNatClampNeg) - (σ 1 (a1 + (36 : Int32)).toNatClampNeg) / y3_9 * y3_9) = (σ 0 15) → qX4_tickOn_B59 a1 a2 post σ) ∧ (¬ ((σ 1 (a1 + (36 : Int32)).toNatClampNeg) - (σ 1 (a1 + (36 : Int32)).toNatClampNeg) / y3_9 * y3_9) = (σ 0 15) → (¬ y3_9 = 0 ∧ (vp_in ((a1 + (17 : Int32)) + ((σ 1 (a1 + (36 : Int32)).toNatClampNeg) - (σ 1 (a1 + (36 : Int32)).toNatClampNeg) / y3_9 * y3_9)) 234 ∧ (qX4_actOn a1 (σ 1 ((a1 + (17 : Int32)) + ((σ 1 (a1 + (36 : Int32)).toNatClampNeg) - (σ 1 (a1 + (36 : Int32)).toNatClampNeg) / y3_9 * y3_9)).toNatClampNeg) a2 σ (fun σ56 => qX4_tickOn_B59 a1 a2 post σ56))))))))))))
set_option maxRecDepth 20000 in
theorem kX4_tickOn {X : Cx} {G : Gw} (hG : fw_IsM G) (O : fw_Ok X G cX4_tickOn 4 RX4 2 52 none) {a1 : Int32} {a2 : Int32}  {σ : Mem} {post : Mem → Prop} (h : qX4_tickOn a1 a2 σ post) : fw_At X G 4 (fw_QV X G post) 0 [(0, .ref (gad G 0)), (1, .int a1), (2, .int a2)] [] σ := by
  unfold qX4_tickOn at h
  refine fr_aload_n (pc := 0) O 0 dX4_tickOn_0 rfl rfl ?_
  refine fr_get (pc := 1) (k := 0) (v := .ref (gad G 1)) O cl_X4 m_713 (sM_0 hG) (by decide) rfl rfl dX4_tickOn_1 ?_
  refine fr_iload_n (pc := 4) O 1 dX4_tickOn_4 rfl rfl ?_
  refine fr_bipush (pc := 5) O (v := (33 : Int32)) dX4_tickOn_5 (by decide) ?_
  refine fr_iadd (pc := 7) O dX4_tickOn_7 ?_
  have hi_8 := h.1
  have h := h.2
  refine fr_iald (pc := 8) O (sM_1 hG) hi_8 dX4_tickOn_8 ?_
  refine fr_nm (fun y3_9 e_y3_9 => ?_)
  have h := h y3_9 e_y3_9
  refine fr_istore_n (pc := 9) O [1, 2, 3, 0] (lv' := [(0, .ref (gad G 0)), (1, .int a1), (2, .int a2), (3, .int y3_9)]) dX4_tickOn_9 rfl (by decide) rfl ?_
  refine fr_iload_n (pc := 10) O 3 dX4_tickOn_10 rfl rfl ?_
  refine fr_if_le (pc := 11) (tgt := 59) O dX4_tickOn_11 (by decide) (fun c_11 => ?_) (fun c_11 => ?_)
  · have h := h.1 c_11
    refine fw_sub (lv' := [(0, .ref (gad G 0)), (1, .int a1), (2, .int a2)]) [0, 1, 2] rfl ?_
    exact kX4_tickOn_B59 hG O  h
  · have h := h.2 c_11
    refine fr_aload_n (pc := 14) O 0 dX4_tickOn_14 rfl rfl ?_
    refine fr_get (pc := 15) (k := 0) (v := .ref (gad G 1)) O cl_X4 m_713 (sM_0 hG) (by decide) rfl rfl dX4_tickOn_15 ?_
    refine fr_iload_n (pc := 18) O 1 dX4_tickOn_18 rfl rfl ?_
    refine fr_bipush (pc := 19) O (v := (36 : Int32)) dX4_tickOn_19 (by decide) ?_
    refine fr_iadd (pc := 21) O dX4_tickOn_21 ?_
    have hi_22 := h.1
    have h := h.2
    refine fr_iald (pc := 22) O (sM_1 hG) hi_22 dX4_tickOn_22 ?_
    refine fr_iload_n (pc := 23) O 3 dX4_tickOn_23 rfl rfl ?_
    refine fr_irem (pc := 24) O h.1 dX4_tickOn_24 ?_
    have h := h.2
    refine fr_aload_n (pc := 25) O 0 dX4_tickOn_25 rfl rfl ?_
    refine fr_get (pc := 26) (k := 15) (v := .int (σ 0 15)) O cl_X4 m_728 (sM_0 hG) (by decide) rfl rfl dX4_tickOn_26 ?_
    refine fr_icmp_eq (pc := 29) (tgt := 59) O dX4_tickOn_29 (by decide) (fun c_29 => ?_) (fun c_29 => ?_)
    · have h := h.1 c_29
      refine fw_sub (lv' := [(0, .ref (gad G 0)), (1, .int a1), (2, .int a2)]) [0, 1, 2] rfl ?_
      exact kX4_tickOn_B59 hG O  h
    · have h := h.2 c_29
      refine fr_aload_n (pc := 32) O 0 dX4_tickOn_32 rfl rfl ?_
      refine fr_iload_n (pc := 33) O 1 dX4_tickOn_33 rfl rfl ?_
      refine fr_aload_n (pc := 34) O 0 dX4_tickOn_34 rfl rfl ?_
      refine fr_get (pc := 35) (k := 0) (v := .ref (gad G 1)) O cl_X4 m_713 (sM_0 hG) (by decide) rfl rfl dX4_tickOn_35 ?_
      refine fr_iload_n (pc := 38) O 1 dX4_tickOn_38 rfl rfl ?_
      refine fr_bipush (pc := 39) O (v := (17 : Int32)) dX4_tickOn_39 (by decide) ?_
      refine fr_iadd (pc := 41) O dX4_tickOn_41 ?_
      refine fr_aload_n (pc := 42) O 0 dX4_tickOn_42 rfl rfl ?_
      refine fr_get (pc := 43) (k := 0) (v := .ref (gad G 1)) O cl_X4 m_713 (sM_0 hG) (by decide) rfl rfl dX4_tickOn_43 ?_
      refine fr_iload_n (pc := 46) O 1 dX4_tickOn_46 rfl rfl ?_
      refine fr_bipush (pc := 47) O (v := (36 : Int32)) dX4_tickOn_47 (by decide) ?_
      refine fr_iadd (pc := 49) O dX4_tickOn_49 ?_
      refine fr_iald (pc := 50) O (sM_1 hG) hi_22 dX4_tickOn_50 ?_
      refine fr_iload_n (pc := 51) O 3 dX4_tickOn_51 rfl rfl ?_
      refine fr_irem (pc := 52) O h.1 dX4_tickOn_52 ?_
      have h := h.2
      refine fr_iadd (pc := 53) O dX4_tickOn_53 ?_
      have hi_54 := h.1
      have h := h.2
      refine fr_iald (pc := 54) O (sM_1 hG) hi_54 dX4_tickOn_54 ?_
      refine fr_iload_n (pc := 55) O 2 dX4_tickOn_55 rfl rfl ?_
      refine fr_callVV (pc := 56) (st := []) O (tX4_actOn X.2.1 hG  h) mt_X4_actOn mv_X4_actOn m_919 cl_X4 rfl (sM_0 hG) rfl (by decide) rfl (Nat.le_of_ble_eq_true rfl) dX4_tickOn_56 (fun σ56 h => ?_)
      refine fw_sub (lv' := [(0, .ref (gad G 0)), (1, .int a1), (2, .int a2)]) [0, 1, 2] rfl ?_
      exact kX4_tickOn_B59 hG O  h
theorem tX4_tickOn (l : Launch) {G : Gw} (hG : fw_IsM G) {a1 : Int32} {a2 : Int32}  {σ : Mem} {post : Mem → Prop} (h : qX4_tickOn a1 a2 σ post) : fw_CV l G yX4_tickOn cX4_tickOn 4 2 52 [.ref (gad G 0), .int a1, .int a2] σ post := fw_ofV (sok_M hG) (by decide) (Nat.le_of_ble_eq_true rfl) (fun X O => kX4_tickOn hG O  h)
def qX4_swingOn_L12 (a1 : Int32) (post : Int32 → Mem → Prop) (k12 : Int32 → Int32 → Mem → Prop) (x2 : Int32) (x3 : Int32) (σ : Mem) : Prop := (vp_in (a1 + (16 : Int32)) 234 ∧ (((σ 1 (a1 + (16 : Int32)).toNatClampNeg) ≤ x3 → post x2 σ) ∧ (¬ (σ 1 (a1 + (16 : Int32)).toNatClampNeg) ≤ x3 → (vp_in ((a1 + (12 : Int32)) + x3) 234 ∧ (∀ y2_38 : Int32, y2_38 = x2 + (σ 1 ((a1 + (12 : Int32)) + x3).toNatClampNeg) → (∀ y3_39 : Int32, y3_39 = x3 + (1 : Int32) → k12 y2_38 y3_39 σ))))))
set_option maxRecDepth 20000 in
theorem kX4_swingOn_L12 {X : Cx} {G : Gw} (hG : fw_IsM G) (O : fw_Ok X G cX4_swingOn 4 RX4 0 0 (some .int)) {a1 : Int32} {post : Int32 → Mem → Prop} {k12 : Int32 → Int32 → Mem → Prop}  (hk12 : ∀ (x2 : Int32) (x3 : Int32) (σ : Mem), k12 x2 x3 σ → fw_At X G 4 (fw_QI X G post) 12 [(0, .ref (gad G 0)), (1, .int a1), (2, .int x2), (3, .int x3)] [] σ) {x2 : Int32} {x3 : Int32} {σ : Mem} (h : qX4_swingOn_L12 a1 post k12 x2 x3 σ) : fw_At X G 4 (fw_QI X G post) 12 [(0, .ref (gad G 0)), (1, .int a1), (2, .int x2), (3, .int x3)] [] σ := by
  unfold qX4_swingOn_L12 at h
  refine fr_iload_n (pc := 12) O 3 dX4_swingOn_12 rfl rfl ?_
  refine fr_aload_n (pc := 13) O 0 dX4_swingOn_13 rfl rfl ?_
  refine fr_get (pc := 14) (k := 0) (v := .ref (gad G 1)) O cl_X4 m_713 (sM_0 hG) (by decide) rfl rfl dX4_swingOn_14 ?_
  refine fr_iload_n (pc := 17) O 1 dX4_swingOn_17 rfl rfl ?_
  refine fr_bipush (pc := 18) O (v := (16 : Int32)) dX4_swingOn_18 (by decide) ?_
  refine fr_iadd (pc := 20) O dX4_swingOn_20 ?_
  have hi_21 := h.1
  have h := h.2
  refine fr_iald (pc := 21) O (sM_1 hG) hi_21 dX4_swingOn_21 ?_
  refine fr_icmp_ge (pc := 22) (tgt := 45) O dX4_swingOn_22 (by decide) (fun c_22 => ?_) (fun c_22 => ?_)
  · have h := h.1 c_22
    refine fr_iload_n (pc := 45) O 2 dX4_swingOn_45 rfl rfl ?_
    exact fr_iret (pc := 46) O dX4_swingOn_46 h
  · have h := h.2 c_22
    refine fr_iload_n (pc := 25) O 2 dX4_swingOn_25 rfl rfl ?_
    refine fr_aload_n (pc := 26) O 0 dX4_swingOn_26 rfl rfl ?_
    refine fr_get (pc := 27) (k := 0) (v := .ref (gad G 1)) O cl_X4 m_713 (sM_0 hG) (by decide) rfl rfl dX4_swingOn_27 ?_
    refine fr_iload_n (pc := 30) O 1 dX4_swingOn_30 rfl rfl ?_
    refine fr_bipush (pc := 31) O (v := (12 : Int32)) dX4_swingOn_31 (by decide) ?_
    refine fr_iadd (pc := 33) O dX4_swingOn_33 ?_
    refine fr_iload_n (pc := 34) O 3 dX4_swingOn_34 rfl rfl ?_
    refine fr_iadd (pc := 35) O dX4_swingOn_35 ?_
    have hi_36 := h.1
    have h := h.2
    refine fr_iald (pc := 36) O (sM_1 hG) hi_36 dX4_swingOn_36 ?_
    refine fr_iadd (pc := 37) O dX4_swingOn_37 ?_
    refine fr_nm (fun y2_38 e_y2_38 => ?_)
    have h := h y2_38 e_y2_38
    refine fr_istore_n (pc := 38) O [1, 2, 0, 3] (lv' := [(0, .ref (gad G 0)), (1, .int a1), (2, .int y2_38), (3, .int x3)]) dX4_swingOn_38 rfl (by decide) rfl ?_
    refine fr_iinc (pc := 39) O 3 [1, 2, 3, 0] (w := (1 : Int32)) (lvF := fun y3_39 => [(0, .ref (gad G 0)), (1, .int a1), (2, .int y2_38), (3, .int y3_39)]) dX4_swingOn_39 rfl (by decide) (by decide) (fun _ => rfl) (fun y3_39 e_y3_39 => ?_)
    have h := h y3_39 e_y3_39
    refine fr_goto (pc := 42) (tgt := 12) O dX4_swingOn_42 (by decide) ?_
    exact hk12 _ _ _ h
set_option maxRecDepth 20000 in
theorem kX4_swingOn_L12w {X : Cx} {G : Gw} (hG : fw_IsM G) (O : fw_Ok X G cX4_swingOn 4 RX4 0 0 (some .int)) {a1 : Int32} {post : Int32 → Mem → Prop}   {n9 : Nat} {x2 : Int32} {x3 : Int32} {σ : Mem} (h : it2 (qX4_swingOn_L12 a1 post) n9 x2 x3 σ) : fw_At X G 4 (fw_QI X G post) 12 [(0, .ref (gad G 0)), (1, .int a1), (2, .int x2), (3, .int x3)] [] σ :=
  it2_walk (T := fun x2 x3 σ => fw_At X G 4 (fw_QI X G post) 12 [(0, .ref (gad G 0)), (1, .int a1), (2, .int x2), (3, .int x3)] [] σ) (fun k12 hk12 x2 x3 σ h => kX4_swingOn_L12 hG O hk12 h) n9 x2 x3 σ h
def qX4_swingOn (a1 : Int32) (σ : Mem) (post : Int32 → Mem → Prop) : Prop := (vp_in (a1 + (35 : Int32)) 234 ∧ (∀ y2_9 : Int32, y2_9 = σ 1 (a1 + (35 : Int32)).toNatClampNeg → ∃ n9, it2 (qX4_swingOn_L12 a1 post) n9 y2_9 (0 : Int32) σ))
set_option maxRecDepth 20000 in
theorem kX4_swingOn {X : Cx} {G : Gw} (hG : fw_IsM G) (O : fw_Ok X G cX4_swingOn 4 RX4 0 0 (some .int)) {a1 : Int32}  {σ : Mem} {post : Int32 → Mem → Prop} (h : qX4_swingOn a1 σ post) : fw_At X G 4 (fw_QI X G post) 0 [(0, .ref (gad G 0)), (1, .int a1)] [] σ := by
  unfold qX4_swingOn at h
  refine fr_aload_n (pc := 0) O 0 dX4_swingOn_0 rfl rfl ?_
  refine fr_get (pc := 1) (k := 0) (v := .ref (gad G 1)) O cl_X4 m_713 (sM_0 hG) (by decide) rfl rfl dX4_swingOn_1 ?_
  refine fr_iload_n (pc := 4) O 1 dX4_swingOn_4 rfl rfl ?_
  refine fr_bipush (pc := 5) O (v := (35 : Int32)) dX4_swingOn_5 (by decide) ?_
  refine fr_iadd (pc := 7) O dX4_swingOn_7 ?_
  have hi_8 := h.1
  have h := h.2
  refine fr_iald (pc := 8) O (sM_1 hG) hi_8 dX4_swingOn_8 ?_
  refine fr_nm (fun y2_9 e_y2_9 => ?_)
  have h := h y2_9 e_y2_9
  refine fr_istore_n (pc := 9) O [1, 2, 0] (lv' := [(0, .ref (gad G 0)), (1, .int a1), (2, .int y2_9)]) dX4_swingOn_9 rfl (by decide) rfl ?_
  refine fr_iconst (pc := 10) O (v := (0 : Int32)) dX4_swingOn_10 (by decide) ?_
  refine fr_istore_n (pc := 11) O [1, 2, 3, 0] (lv' := [(0, .ref (gad G 0)), (1, .int a1), (2, .int y2_9), (3, .int (0 : Int32))]) dX4_swingOn_11 rfl (by decide) rfl ?_
  obtain ⟨n9, h⟩ := h
  exact kX4_swingOn_L12w hG O  h
theorem tX4_swingOn (l : Launch) {G : Gw} (hG : fw_IsM G) {a1 : Int32}  {σ : Mem} {post : Int32 → Mem → Prop} (h : qX4_swingOn a1 σ post) : fw_CI l G yX4_swingOn cX4_swingOn 4 .int 0 0 [.ref (gad G 0), .int a1] σ post := fw_ofI (sok_M hG) (by decide) (Nat.le_of_ble_eq_true rfl) (fun X O => kX4_swingOn hG O  h)
def qX4_rule_B144 (a1 : Int32) (post : Int32 → Mem → Prop) (s0 : Int32) (σ : Mem) : Prop := post s0 σ
set_option maxRecDepth 20000 in
theorem kX4_rule_B144 {X : Cx} {G : Gw} (hG : fw_IsM G) (O : fw_Ok X G cX4_rule 3 RX4 1 21 (some .int)) {a1 : Int32} {post : Int32 → Mem → Prop}   {s0 : Int32} {σ : Mem} (h : qX4_rule_B144 a1 post s0 σ) : fw_At X G 3 (fw_QI X G post) 144 [(0, .ref (gad G 0)), (1, .int a1)] [.int s0] σ := by
  unfold qX4_rule_B144 at h
  exact fr_iret (pc := 144) O dX4_rule_144 h
def qX4_rule (a1 : Int32) (σ : Mem) (post : Int32 → Mem → Prop) : Prop := (vp_in (33 : Int32) 234 ∧ (∀ y2_7 : Int32, y2_7 = σ 1 (33 : Int32).toNatClampNeg → ((a1 = (0 : Int32) → (vp_in (16 : Int32) 234 ∧ post (σ 1 (16 : Int32).toNatClampNeg) σ)) ∧ (¬ a1 = (0 : Int32) → ((a1 = (1 : Int32) → post y2_7 σ) ∧ (¬ a1 = (1 : Int32) → ((a1 = (2 : Int32) → (vp_in (36 : Int32) 234 ∧ post (σ 1 (36 : Int32).toNatClampNeg) σ)) ∧ (¬ a1 = (2 : Int32) → ((a1 = (3 : Int32) → (vp_in (37 : Int32) 234 ∧ post (σ 1 (37 : Int32).toNatClampNeg) σ)) ∧ (¬ a1 = (3 : Int32) → ((a1 = (4 : Int32) → (vp_in (38 : Int32) 234 ∧ post (σ 1 (38 : Int32).toNatClampNeg) σ)) ∧ (¬ a1 = (4 : Int32) → ((a1 = (5 : Int32) → (vp_in (34 : Int32) 234 ∧ post ((σ 1 (34 : Int32).toNatClampNeg) + (5 : Int32)) σ)) ∧ (¬ a1 = (5 : Int32) → ((a1 = (6 : Int32) → (vp_in (35 : Int32) 234 ∧ post (σ 1 (35 : Int32).toNatClampNeg) σ)) ∧ (¬ a1 = (6 : Int32) → ((a1 = (7 : Int32) → (qX4_speedOn (0 : Int32) σ (fun r114 σ114 => post r114 σ114))) ∧ (¬ a1 = (7 : Int32) → ((a1 = (8 : Int32) → ((¬ y2_7 = 0 → (vp_in (36 : Int32) 234 ∧ (¬ y2_7 = 0 ∧ (vp_in ((17 : Int32) + ((σ 1 (36 : Int32).toNatClampNeg) - (σ 1 (36 : Int32).toNatClampNeg) / y2_7 * y2_7)) 234 ∧ qX4_rule_B144 a1 post (σ 1 ((17 : Int32) + ((σ 1 (36 : Int32).toNatClampNeg) - (σ 1 (36 : Int32).toNatClampNeg) / y2_7 * y2_7)).toNatClampNeg) σ)))) ∧ (y2_7 = 0 → qX4_rule_B144 a1 post (-4 : Int32) σ))) ∧ (¬ a1 = (8 : Int32) → post (-1 : Int32) σ))))))))))))))))))))
set_option maxRecDepth 20000 in
theorem kX4_rule {X : Cx} {G : Gw} (hG : fw_IsM G) (O : fw_Ok X G cX4_rule 3 RX4 1 21 (some .int)) {a1 : Int32}  {σ : Mem} {post : Int32 → Mem → Prop} (h : qX4_rule a1 σ post) : fw_At X G 3 (fw_QI X G post) 0 [(0, .ref (gad G 0)), (1, .int a1)] [] σ := by
  unfold qX4_rule at h
  refine fr_aload_n (pc := 0) O 0 dX4_rule_0 rfl rfl ?_
  refine fr_get (pc := 1) (k := 0) (v := .ref (gad G 1)) O cl_X4 m_713 (sM_0 hG) (by decide) rfl rfl dX4_rule_1 ?_
  refine fr_bipush (pc := 4) O (v := (33 : Int32)) dX4_rule_4 (by decide) ?_
  have hi_6 := h.1
  have h := h.2
  refine fr_iald (pc := 6) O (sM_1 hG) hi_6 dX4_rule_6 ?_
  refine fr_nm (fun y2_7 e_y2_7 => ?_)
  have h := h y2_7 e_y2_7
  refine fr_istore_n (pc := 7) O [1, 2, 0] (lv' := [(0, .ref (gad G 0)), (1, .int a1), (2, .int y2_7)]) dX4_rule_7 rfl (by decide) rfl ?_
  refine fr_iload_n (pc := 8) O 1 dX4_rule_8 rfl rfl ?_
  by_cases e9_0 : a1 = (0 : Int32)
  · refine fr_tabIn (pc := 9) (tgt := 60) (off := 51) O dX4_rule_9 (by rw [e9_0]; decide) ?_
    have h := h.1 e9_0
    refine fr_aload_n (pc := 60) O 0 dX4_rule_60 rfl rfl ?_
    refine fr_get (pc := 61) (k := 0) (v := .ref (gad G 1)) O cl_X4 m_713 (sM_0 hG) (by decide) rfl rfl dX4_rule_61 ?_
    refine fr_bipush (pc := 64) O (v := (16 : Int32)) dX4_rule_64 (by decide) ?_
    have hi_66 := h.1
    have h := h.2
    refine fr_iald (pc := 66) O (sM_1 hG) hi_66 dX4_rule_66 ?_
    exact fr_iret (pc := 67) O dX4_rule_67 h
  · have h := h.2 e9_0
    by_cases e9_1 : a1 = (1 : Int32)
    · refine fr_tabIn (pc := 9) (tgt := 68) (off := 59) O dX4_rule_9 (by rw [e9_1]; decide) ?_
      have h := h.1 e9_1
      refine fr_iload_n (pc := 68) O 2 dX4_rule_68 rfl rfl ?_
      exact fr_iret (pc := 69) O dX4_rule_69 h
    · have h := h.2 e9_1
      by_cases e9_2 : a1 = (2 : Int32)
      · refine fr_tabIn (pc := 9) (tgt := 70) (off := 61) O dX4_rule_9 (by rw [e9_2]; decide) ?_
        have h := h.1 e9_2
        refine fr_aload_n (pc := 70) O 0 dX4_rule_70 rfl rfl ?_
        refine fr_get (pc := 71) (k := 0) (v := .ref (gad G 1)) O cl_X4 m_713 (sM_0 hG) (by decide) rfl rfl dX4_rule_71 ?_
        refine fr_bipush (pc := 74) O (v := (36 : Int32)) dX4_rule_74 (by decide) ?_
        have hi_76 := h.1
        have h := h.2
        refine fr_iald (pc := 76) O (sM_1 hG) hi_76 dX4_rule_76 ?_
        exact fr_iret (pc := 77) O dX4_rule_77 h
      · have h := h.2 e9_2
        by_cases e9_3 : a1 = (3 : Int32)
        · refine fr_tabIn (pc := 9) (tgt := 78) (off := 69) O dX4_rule_9 (by rw [e9_3]; decide) ?_
          have h := h.1 e9_3
          refine fr_aload_n (pc := 78) O 0 dX4_rule_78 rfl rfl ?_
          refine fr_get (pc := 79) (k := 0) (v := .ref (gad G 1)) O cl_X4 m_713 (sM_0 hG) (by decide) rfl rfl dX4_rule_79 ?_
          refine fr_bipush (pc := 82) O (v := (37 : Int32)) dX4_rule_82 (by decide) ?_
          have hi_84 := h.1
          have h := h.2
          refine fr_iald (pc := 84) O (sM_1 hG) hi_84 dX4_rule_84 ?_
          exact fr_iret (pc := 85) O dX4_rule_85 h
        · have h := h.2 e9_3
          by_cases e9_4 : a1 = (4 : Int32)
          · refine fr_tabIn (pc := 9) (tgt := 86) (off := 77) O dX4_rule_9 (by rw [e9_4]; decide) ?_
            have h := h.1 e9_4
            refine fr_aload_n (pc := 86) O 0 dX4_rule_86 rfl rfl ?_
            refine fr_get (pc := 87) (k := 0) (v := .ref (gad G 1)) O cl_X4 m_713 (sM_0 hG) (by decide) rfl rfl dX4_rule_87 ?_
            refine fr_bipush (pc := 90) O (v := (38 : Int32)) dX4_rule_90 (by decide) ?_
            have hi_92 := h.1
            have h := h.2
            refine fr_iald (pc := 92) O (sM_1 hG) hi_92 dX4_rule_92 ?_
            exact fr_iret (pc := 93) O dX4_rule_93 h
          · have h := h.2 e9_4
            by_cases e9_5 : a1 = (5 : Int32)
            · refine fr_tabIn (pc := 9) (tgt := 94) (off := 85) O dX4_rule_9 (by rw [e9_5]; decide) ?_
              have h := h.1 e9_5
              refine fr_aload_n (pc := 94) O 0 dX4_rule_94 rfl rfl ?_
              refine fr_get (pc := 95) (k := 0) (v := .ref (gad G 1)) O cl_X4 m_713 (sM_0 hG) (by decide) rfl rfl dX4_rule_95 ?_
              refine fr_bipush (pc := 98) O (v := (34 : Int32)) dX4_rule_98 (by decide) ?_
              have hi_100 := h.1
              have h := h.2
              refine fr_iald (pc := 100) O (sM_1 hG) hi_100 dX4_rule_100 ?_
              refine fr_iconst (pc := 101) O (v := (5 : Int32)) dX4_rule_101 (by decide) ?_
              refine fr_iadd (pc := 102) O dX4_rule_102 ?_
              exact fr_iret (pc := 103) O dX4_rule_103 h
            · have h := h.2 e9_5
              by_cases e9_6 : a1 = (6 : Int32)
              · refine fr_tabIn (pc := 9) (tgt := 104) (off := 95) O dX4_rule_9 (by rw [e9_6]; decide) ?_
                have h := h.1 e9_6
                refine fr_aload_n (pc := 104) O 0 dX4_rule_104 rfl rfl ?_
                refine fr_get (pc := 105) (k := 0) (v := .ref (gad G 1)) O cl_X4 m_713 (sM_0 hG) (by decide) rfl rfl dX4_rule_105 ?_
                refine fr_bipush (pc := 108) O (v := (35 : Int32)) dX4_rule_108 (by decide) ?_
                have hi_110 := h.1
                have h := h.2
                refine fr_iald (pc := 110) O (sM_1 hG) hi_110 dX4_rule_110 ?_
                exact fr_iret (pc := 111) O dX4_rule_111 h
              · have h := h.2 e9_6
                by_cases e9_7 : a1 = (7 : Int32)
                · refine fr_tabIn (pc := 9) (tgt := 112) (off := 103) O dX4_rule_9 (by rw [e9_7]; decide) ?_
                  have h := h.1 e9_7
                  refine fr_aload_n (pc := 112) O 0 dX4_rule_112 rfl rfl ?_
                  refine fr_iconst (pc := 113) O (v := (0 : Int32)) dX4_rule_113 (by decide) ?_
                  refine fr_callVI (pc := 114) (st := []) O (tX4_speedOn X.2.1 hG  h) mt_X4_speedOn mv_X4_speedOn m_849 cl_X4 rfl (sM_0 hG) rfl (by decide) rfl (Nat.le_of_ble_eq_true rfl) dX4_rule_114 (fun r114 σ114 h => ?_)
                  exact fr_iret (pc := 117) O dX4_rule_117 h
                · have h := h.2 e9_7
                  by_cases e9_8 : a1 = (8 : Int32)
                  · refine fr_tabIn (pc := 9) (tgt := 118) (off := 109) O dX4_rule_9 (by rw [e9_8]; decide) ?_
                    have h := h.1 e9_8
                    refine fr_iload_n (pc := 118) O 2 dX4_rule_118 rfl rfl ?_
                    refine fr_if_ne (pc := 119) (tgt := 127) O dX4_rule_119 (by decide) (fun c_119 => ?_) (fun c_119 => ?_)
                    · have h := h.1 c_119
                      refine fr_aload_n (pc := 127) O 0 dX4_rule_127 rfl rfl ?_
                      refine fr_get (pc := 128) (k := 0) (v := .ref (gad G 1)) O cl_X4 m_713 (sM_0 hG) (by decide) rfl rfl dX4_rule_128 ?_
                      refine fr_bipush (pc := 131) O (v := (17 : Int32)) dX4_rule_131 (by decide) ?_
                      refine fr_aload_n (pc := 133) O 0 dX4_rule_133 rfl rfl ?_
                      refine fr_get (pc := 134) (k := 0) (v := .ref (gad G 1)) O cl_X4 m_713 (sM_0 hG) (by decide) rfl rfl dX4_rule_134 ?_
                      refine fr_bipush (pc := 137) O (v := (36 : Int32)) dX4_rule_137 (by decide) ?_
                      have hi_139 := h.1
                      have h := h.2
                      refine fr_iald (pc := 139) O (sM_1 hG) hi_139 dX4_rule_139 ?_
                      refine fr_iload_n (pc := 140) O 2 dX4_rule_140 rfl rfl ?_
                      refine fr_irem (pc := 141) O h.1 dX4_rule_141 ?_
                      have h := h.2
                      refine fr_iadd (pc := 142) O dX4_rule_142 ?_
                      have hi_143 := h.1
                      have h := h.2
                      refine fr_iald (pc := 143) O (sM_1 hG) hi_143 dX4_rule_143 ?_
                      refine fw_sub (lv' := [(0, .ref (gad G 0)), (1, .int a1)]) [0, 1] rfl ?_
                      exact kX4_rule_B144 hG O  h
                    · have h := h.2 c_119
                      refine fr_bipush (pc := 122) O (v := (-4 : Int32)) dX4_rule_122 (by decide) ?_
                      refine fr_goto (pc := 124) (tgt := 144) O dX4_rule_124 (by decide) ?_
                      refine fw_sub (lv' := [(0, .ref (gad G 0)), (1, .int a1)]) [0, 1] rfl ?_
                      exact kX4_rule_B144 hG O  h
                  · have h := h.2 e9_8
                    have n0 := lv_neT e9_0 (show ((0 : Int32)).toInt = 0 by decide)
                    have n1 := lv_neT e9_1 (show ((1 : Int32)).toInt = 1 by decide)
                    have n2 := lv_neT e9_2 (show ((2 : Int32)).toInt = 2 by decide)
                    have n3 := lv_neT e9_3 (show ((3 : Int32)).toInt = 3 by decide)
                    have n4 := lv_neT e9_4 (show ((4 : Int32)).toInt = 4 by decide)
                    have n5 := lv_neT e9_5 (show ((5 : Int32)).toInt = 5 by decide)
                    have n6 := lv_neT e9_6 (show ((6 : Int32)).toInt = 6 by decide)
                    have n7 := lv_neT e9_7 (show ((7 : Int32)).toInt = 7 by decide)
                    have n8 := lv_neT e9_8 (show ((8 : Int32)).toInt = 8 by decide)
                    refine fr_tabOut (pc := 9) (tgt := 145) O dX4_rule_9 (by omega) (by decide) ?_
                    refine fr_iconst (pc := 145) O (v := (-1 : Int32)) dX4_rule_145 (by decide) ?_
                    exact fr_iret (pc := 146) O dX4_rule_146 h
theorem tX4_rule (l : Launch) {G : Gw} (hG : fw_IsM G) {a1 : Int32}  {σ : Mem} {post : Int32 → Mem → Prop} (h : qX4_rule a1 σ post) : fw_CI l G yX4_rule cX4_rule 3 .int 1 21 [.ref (gad G 0), .int a1] σ post := fw_ofI (sok_M hG) (by decide) (Nat.le_of_ble_eq_true rfl) (fun X O => kX4_rule hG O  h)
def qX4_wheel_B20 (a1 : Int32) (a2 : Int32) (post : Int32 → Mem → Prop) (σ : Mem) : Prop := post (-1 : Int32) σ
set_option maxRecDepth 20000 in
theorem kX4_wheel_B20 {X : Cx} {G : Gw} (hG : fw_IsM G) (O : fw_Ok X G cX4_wheel 3 RX4 2 46 (some .int)) {a1 : Int32} {a2 : Int32} {post : Int32 → Mem → Prop}    {σ : Mem} (h : qX4_wheel_B20 a1 a2 post σ) : fw_At X G 3 (fw_QI X G post) 20 [(0, .ref (gad G 0)), (1, .int a1), (2, .int a2)] [] σ := by
  unfold qX4_wheel_B20 at h
  refine fr_iconst (pc := 20) O (v := (-1 : Int32)) dX4_wheel_20 (by decide) ?_
  exact fr_iret (pc := 21) O dX4_wheel_21 h
def qX4_wheel_B72 (a1 : Int32) (a2 : Int32) (post : Int32 → Mem → Prop) (s0 : Int32) (σ : Mem) : Prop := post s0 σ
set_option maxRecDepth 20000 in
theorem kX4_wheel_B72 {X : Cx} {G : Gw} (hG : fw_IsM G) (O : fw_Ok X G cX4_wheel 3 RX4 2 46 (some .int)) {a1 : Int32} {a2 : Int32} {post : Int32 → Mem → Prop}   {s0 : Int32} {σ : Mem} (h : qX4_wheel_B72 a1 a2 post s0 σ) : fw_At X G 3 (fw_QI X G post) 72 [(0, .ref (gad G 0)), (1, .int a1), (2, .int a2)] [.int s0] σ := by
  unfold qX4_wheel_B72 at h
  exact fr_iret (pc := 72) O dX4_wheel_72 h
def qX4_wheel (a1 : Int32) (a2 : Int32) (σ : Mem) (post : Int32 → Mem → Prop) : Prop := (qX4_isWheel a1 σ (fun r2 σ2 => ((r2 = 0 → qX4_wheel_B20 a1 a2 post σ2) ∧ (¬ r2 = 0 → (qX4_in a2.toInt64 (0 : Int64) (5 : Int64) σ2 (fun r14 σ14 => ((¬ r14 = 0 → (((4 : Int32) ≤ a2 → ((¬ a2 = (4 : Int32) → (qX4_joinedOn (0 : Int32) a1 σ14 (fun r69 σ69 => qX4_wheel_B72 a1 a2 post r69 σ69))) ∧ (a2 = (4 : Int32) → (vp_in ((12 : Int32) + a1) 234 ∧ (vp_in ((4 : Int32) + a1) 234 ∧ (¬ (σ14 1 ((4 : Int32) + a1).toNatClampNeg) = 0 ∧ qX4_wheel_B72 a1 a2 post ((σ14 1 ((12 : Int32) + a1).toNatClampNeg) / (σ14 1 ((4 : Int32) + a1).toNatClampNeg)) σ14)))))) ∧ (¬ (4 : Int32) ≤ a2 → (vp_in (((4 : Int32) * a2) + a1) 234 ∧ qX4_wheel_B72 a1 a2 post (σ14 1 (((4 : Int32) * a2) + a1).toNatClampNeg) σ14)))) ∧ (r14 = 0 → qX4_wheel_B20 a1 a2 post σ14))))))))
set_option maxRecDepth 20000 in
theorem kX4_wheel {X : Cx} {G : Gw} (hG : fw_IsM G) (O : fw_Ok X G cX4_wheel 3 RX4 2 46 (some .int)) {a1 : Int32} {a2 : Int32}  {σ : Mem} {post : Int32 → Mem → Prop} (h : qX4_wheel a1 a2 σ post) : fw_At X G 3 (fw_QI X G post) 0 [(0, .ref (gad G 0)), (1, .int a1), (2, .int a2)] [] σ := by
  unfold qX4_wheel at h
  refine fr_aload_n (pc := 0) O 0 dX4_wheel_0 rfl rfl ?_
  refine fr_iload_n (pc := 1) O 1 dX4_wheel_1 rfl rfl ?_
  refine fr_callVI (pc := 2) (st := []) O (tX4_isWheel X.2.1 hG  h) mt_X4_isWheel mv_X4_isWheel m_857 cl_X4 rfl (sM_0 hG) rfl (by decide) rfl (Nat.le_of_ble_eq_true rfl) dX4_wheel_2 (fun r2 σ2 h => ?_)
  refine fr_if_eq (pc := 5) (tgt := 20) O dX4_wheel_5 (by decide) (fun c_5 => ?_) (fun c_5 => ?_)
  · have h := h.1 c_5
    exact kX4_wheel_B20 hG O  h
  · have h := h.2 c_5
    refine fr_iload_n (pc := 8) O 2 dX4_wheel_8 rfl rfl ?_
    refine fr_i2l (pc := 9) O dX4_wheel_9 ?_
    refine fr_lconst (pc := 10) O (v := (0 : Int64)) dX4_wheel_10 (by decide) ?_
    refine fr_ldc2 (pc := 11) O m_861 dX4_wheel_11 ?_
    refine fr_callSI (pc := 14) (st := []) O (tX4_in X.2.1 hG  h) mt_X4_in m_798 m_797 rfl (by decide) rfl (Nat.le_of_ble_eq_true rfl) dX4_wheel_14 (fun r14 σ14 h => ?_)
    refine fr_if_ne (pc := 17) (tgt := 22) O dX4_wheel_17 (by decide) (fun c_17 => ?_) (fun c_17 => ?_)
    · have h := h.1 c_17
      refine fr_iload_n (pc := 22) O 2 dX4_wheel_22 rfl rfl ?_
      refine fr_iconst (pc := 23) O (v := (4 : Int32)) dX4_wheel_23 (by decide) ?_
      refine fr_icmp_ge (pc := 24) (tgt := 40) O dX4_wheel_24 (by decide) (fun c_24 => ?_) (fun c_24 => ?_)
      · have h := h.1 c_24
        refine fr_iload_n (pc := 40) O 2 dX4_wheel_40 rfl rfl ?_
        refine fr_iconst (pc := 41) O (v := (4 : Int32)) dX4_wheel_41 (by decide) ?_
        refine fr_icmp_ne (pc := 42) (tgt := 66) O dX4_wheel_42 (by decide) (fun c_42 => ?_) (fun c_42 => ?_)
        · have h := h.1 c_42
          refine fr_aload_n (pc := 66) O 0 dX4_wheel_66 rfl rfl ?_
          refine fr_iconst (pc := 67) O (v := (0 : Int32)) dX4_wheel_67 (by decide) ?_
          refine fr_iload_n (pc := 68) O 1 dX4_wheel_68 rfl rfl ?_
          refine fr_callVI (pc := 69) (st := []) O (tX4_joinedOn X.2.1 hG  h) mt_X4_joinedOn mv_X4_joinedOn m_862 cl_X4 rfl (sM_0 hG) rfl (by decide) rfl (Nat.le_of_ble_eq_true rfl) dX4_wheel_69 (fun r69 σ69 h => ?_)
          exact kX4_wheel_B72 hG O  h
        · have h := h.2 c_42
          refine fr_aload_n (pc := 45) O 0 dX4_wheel_45 rfl rfl ?_
          refine fr_get (pc := 46) (k := 0) (v := .ref (gad G 1)) O cl_X4 m_713 (sM_0 hG) (by decide) rfl rfl dX4_wheel_46 ?_
          refine fr_bipush (pc := 49) O (v := (12 : Int32)) dX4_wheel_49 (by decide) ?_
          refine fr_iload_n (pc := 51) O 1 dX4_wheel_51 rfl rfl ?_
          refine fr_iadd (pc := 52) O dX4_wheel_52 ?_
          have hi_53 := h.1
          have h := h.2
          refine fr_iald (pc := 53) O (sM_1 hG) hi_53 dX4_wheel_53 ?_
          refine fr_aload_n (pc := 54) O 0 dX4_wheel_54 rfl rfl ?_
          refine fr_get (pc := 55) (k := 0) (v := .ref (gad G 1)) O cl_X4 m_713 (sM_0 hG) (by decide) rfl rfl dX4_wheel_55 ?_
          refine fr_iconst (pc := 58) O (v := (4 : Int32)) dX4_wheel_58 (by decide) ?_
          refine fr_iload_n (pc := 59) O 1 dX4_wheel_59 rfl rfl ?_
          refine fr_iadd (pc := 60) O dX4_wheel_60 ?_
          have hi_61 := h.1
          have h := h.2
          refine fr_iald (pc := 61) O (sM_1 hG) hi_61 dX4_wheel_61 ?_
          refine fr_idiv (pc := 62) O h.1 dX4_wheel_62 ?_
          have h := h.2
          refine fr_goto (pc := 63) (tgt := 72) O dX4_wheel_63 (by decide) ?_
          exact kX4_wheel_B72 hG O  h
      · have h := h.2 c_24
        refine fr_aload_n (pc := 27) O 0 dX4_wheel_27 rfl rfl ?_
        refine fr_get (pc := 28) (k := 0) (v := .ref (gad G 1)) O cl_X4 m_713 (sM_0 hG) (by decide) rfl rfl dX4_wheel_28 ?_
        refine fr_iconst (pc := 31) O (v := (4 : Int32)) dX4_wheel_31 (by decide) ?_
        refine fr_iload_n (pc := 32) O 2 dX4_wheel_32 rfl rfl ?_
        refine fr_imul (pc := 33) O dX4_wheel_33 ?_
        refine fr_iload_n (pc := 34) O 1 dX4_wheel_34 rfl rfl ?_
        refine fr_iadd (pc := 35) O dX4_wheel_35 ?_
        have hi_36 := h.1
        have h := h.2
        refine fr_iald (pc := 36) O (sM_1 hG) hi_36 dX4_wheel_36 ?_
        refine fr_goto (pc := 37) (tgt := 72) O dX4_wheel_37 (by decide) ?_
        exact kX4_wheel_B72 hG O  h
    · have h := h.2 c_17
      exact kX4_wheel_B20 hG O  h
theorem tX4_wheel (l : Launch) {G : Gw} (hG : fw_IsM G) {a1 : Int32} {a2 : Int32}  {σ : Mem} {post : Int32 → Mem → Prop} (h : qX4_wheel a1 a2 σ post) : fw_CI l G yX4_wheel cX4_wheel 3 .int 2 46 [.ref (gad G 0), .int a1, .int a2] σ post := fw_ofI (sok_M hG) (by decide) (Nat.le_of_ble_eq_true rfl) (fun X O => kX4_wheel hG O  h)
def qX4_act_B21 (a1 : Int32) (post : Int32 → Mem → Prop) (s0 : Int32) (σ : Mem) : Prop := post s0 σ
set_option maxRecDepth 20000 in
theorem kX4_act_B21 {X : Cx} {G : Gw} (hG : fw_IsM G) (O : fw_Ok X G cX4_act 2 RX4 2 46 (some .int)) {a1 : Int32} {post : Int32 → Mem → Prop}   {s0 : Int32} {σ : Mem} (h : qX4_act_B21 a1 post s0 σ) : fw_At X G 2 (fw_QI X G post) 21 [(0, .ref (gad G 0)), (1, .int a1)] [.int s0] σ := by
  unfold qX4_act_B21 at h
  exact fr_iret (pc := 21) O dX4_act_21 h
def qX4_act (a1 : Int32) (σ : Mem) (post : Int32 → Mem → Prop) : Prop := (qX4_isAct a1 σ (fun r2 σ2 => ((r2 = 0 → qX4_act_B21 a1 post (-1 : Int32) σ2) ∧ (¬ r2 = 0 → (vp_in ((17 : Int32) + a1) 234 ∧ qX4_act_B21 a1 post (σ2 1 ((17 : Int32) + a1).toNatClampNeg) σ2)))))
set_option maxRecDepth 20000 in
theorem kX4_act {X : Cx} {G : Gw} (hG : fw_IsM G) (O : fw_Ok X G cX4_act 2 RX4 2 46 (some .int)) {a1 : Int32}  {σ : Mem} {post : Int32 → Mem → Prop} (h : qX4_act a1 σ post) : fw_At X G 2 (fw_QI X G post) 0 [(0, .ref (gad G 0)), (1, .int a1)] [] σ := by
  unfold qX4_act at h
  refine fr_aload_n (pc := 0) O 0 dX4_act_0 rfl rfl ?_
  refine fr_iload_n (pc := 1) O 1 dX4_act_1 rfl rfl ?_
  refine fr_callVI (pc := 2) (st := []) O (tX4_isAct X.2.1 hG  h) mt_X4_isAct mv_X4_isAct m_870 cl_X4 rfl (sM_0 hG) rfl (by decide) rfl (Nat.le_of_ble_eq_true rfl) dX4_act_2 (fun r2 σ2 h => ?_)
  refine fr_if_eq (pc := 5) (tgt := 20) O dX4_act_5 (by decide) (fun c_5 => ?_) (fun c_5 => ?_)
  · have h := h.1 c_5
    refine fr_iconst (pc := 20) O (v := (-1 : Int32)) dX4_act_20 (by decide) ?_
    exact kX4_act_B21 hG O  h
  · have h := h.2 c_5
    refine fr_aload_n (pc := 8) O 0 dX4_act_8 rfl rfl ?_
    refine fr_get (pc := 9) (k := 0) (v := .ref (gad G 1)) O cl_X4 m_713 (sM_0 hG) (by decide) rfl rfl dX4_act_9 ?_
    refine fr_bipush (pc := 12) O (v := (17 : Int32)) dX4_act_12 (by decide) ?_
    refine fr_iload_n (pc := 14) O 1 dX4_act_14 rfl rfl ?_
    refine fr_iadd (pc := 15) O dX4_act_15 ?_
    have hi_16 := h.1
    have h := h.2
    refine fr_iald (pc := 16) O (sM_1 hG) hi_16 dX4_act_16 ?_
    refine fr_goto (pc := 17) (tgt := 21) O dX4_act_17 (by decide) ?_
    exact kX4_act_B21 hG O  h
theorem tX4_act (l : Launch) {G : Gw} (hG : fw_IsM G) {a1 : Int32}  {σ : Mem} {post : Int32 → Mem → Prop} (h : qX4_act a1 σ post) : fw_CI l G yX4_act cX4_act 2 .int 2 46 [.ref (gad G 0), .int a1] σ post := fw_ofI (sok_M hG) (by decide) (Nat.le_of_ble_eq_true rfl) (fun X O => kX4_act hG O  h)
def qX4_puts (a1 : Int32) (a2 : Int32) (a3 : Int32) (a4 : Int32) (σ : Mem) (post : Int32 → Mem → Prop) : Prop := ((¬ a1 = 0 → (vp_in a2 234 ∧ (∀ y5_15 : Int32, y5_15 = (σ 1 a2.toNatClampNeg) + a4 → (∀ σ26 : Mem, σ26 = up2 σ 1 a2.toNatClampNeg (a3 - a4) → post y5_15 σ26)))) ∧ (a1 = 0 → post (-1 : Int32) σ))
set_option maxRecDepth 20000 in
theorem kX4_puts {X : Cx} {G : Gw} (hG : fw_IsM G) (O : fw_Ok X G cX4_puts 6 RX4 0 0 (some .int)) {a1 : Int32} {a2 : Int32} {a3 : Int32} {a4 : Int32}  {σ : Mem} {post : Int32 → Mem → Prop} (h : qX4_puts a1 a2 a3 a4 σ post) : fw_At X G 6 (fw_QI X G post) 0 [(0, .ref (gad G 0)), (1, .int a1), (2, .int a2), (3, .int a3), (4, .int a4)] [] σ := by
  unfold qX4_puts at h
  refine fr_iload_n (pc := 0) O 1 dX4_puts_0 rfl rfl ?_
  refine fr_if_ne (pc := 1) (tgt := 6) O dX4_puts_1 (by decide) (fun c_1 => ?_) (fun c_1 => ?_)
  · have h := h.1 c_1
    refine fr_aload_n (pc := 6) O 0 dX4_puts_6 rfl rfl ?_
    refine fr_get (pc := 7) (k := 0) (v := .ref (gad G 1)) O cl_X4 m_713 (sM_0 hG) (by decide) rfl rfl dX4_puts_7 ?_
    refine fr_iload_n (pc := 10) O 2 dX4_puts_10 rfl rfl ?_
    have hi_11 := h.1
    have h := h.2
    refine fr_iald (pc := 11) O (sM_1 hG) hi_11 dX4_puts_11 ?_
    refine fr_iload (pc := 12) O 4 dX4_puts_12 rfl ?_
    refine fr_iadd (pc := 14) O dX4_puts_14 ?_
    refine fr_nm (fun y5_15 e_y5_15 => ?_)
    have h := h y5_15 e_y5_15
    refine fr_istore (pc := 15) O [1, 2, 3, 4, 5, 0] (lv' := [(0, .ref (gad G 0)), (1, .int a1), (2, .int a2), (3, .int a3), (4, .int a4), (5, .int y5_15)]) dX4_puts_15 (by decide) rfl ?_
    refine fr_aload_n (pc := 17) O 0 dX4_puts_17 rfl rfl ?_
    refine fr_get (pc := 18) (k := 0) (v := .ref (gad G 1)) O cl_X4 m_713 (sM_0 hG) (by decide) rfl rfl dX4_puts_18 ?_
    refine fr_iload_n (pc := 21) O 2 dX4_puts_21 rfl rfl ?_
    refine fr_iload_n (pc := 22) O 3 dX4_puts_22 rfl rfl ?_
    refine fr_iload (pc := 23) O 4 dX4_puts_23 rfl ?_
    refine fr_isub (pc := 25) O dX4_puts_25 ?_
    refine fr_iast (pc := 26) O (sM_1 hG) hi_11 dX4_puts_26 (fun σ26 e_σ26 => ?_)
    have h := h σ26 e_σ26
    refine fr_iload (pc := 27) O 5 dX4_puts_27 rfl ?_
    exact fr_iret (pc := 29) O dX4_puts_29 h
  · have h := h.2 c_1
    refine fr_iconst (pc := 4) O (v := (-1 : Int32)) dX4_puts_4 (by decide) ?_
    exact fr_iret (pc := 5) O dX4_puts_5 h
theorem tX4_puts (l : Launch) {G : Gw} (hG : fw_IsM G) {a1 : Int32} {a2 : Int32} {a3 : Int32} {a4 : Int32}  {σ : Mem} {post : Int32 → Mem → Prop} (h : qX4_puts a1 a2 a3 a4 σ post) : fw_CI l G yX4_puts cX4_puts 6 .int 0 0 [.ref (gad G 0), .int a1, .int a2, .int a3, .int a4] σ post := fw_ofI (sok_M hG) (by decide) (Nat.le_of_ble_eq_true rfl) (fun X O => kX4_puts hG O  h)
def qX4_alter_B93 (a1 : Int32) (a2 : Int32) (a3 : Int32) (post : Int32 → Mem → Prop) (s1 : Int32) (σ : Mem) : Prop := (qX4_puts s1 (((4 : Int32) * a2) + a1) a3 (0 : Int32) σ (fun r100 σ100 => post r100 σ100))
set_option maxRecDepth 20000 in
theorem kX4_alter_B93 {X : Cx} {G : Gw} (hG : fw_IsM G) (O : fw_Ok X G cX4_alter 5 RX4 2 46 (some .int)) {a1 : Int32} {a2 : Int32} {a3 : Int32} {post : Int32 → Mem → Prop}   {s1 : Int32} {σ : Mem} (h : qX4_alter_B93 a1 a2 a3 post s1 σ) : fw_At X G 5 (fw_QI X G post) 93 [(0, .ref (gad G 0)), (1, .int a1), (2, .int a2), (3, .int a3)] [.int s1, .ref (gad G 0)] σ := by
  unfold qX4_alter_B93 at h
  refine fr_iconst (pc := 93) O (v := (4 : Int32)) dX4_alter_93 (by decide) ?_
  refine fr_iload_n (pc := 94) O 2 dX4_alter_94 rfl rfl ?_
  refine fr_imul (pc := 95) O dX4_alter_95 ?_
  refine fr_iload_n (pc := 96) O 1 dX4_alter_96 rfl rfl ?_
  refine fr_iadd (pc := 97) O dX4_alter_97 ?_
  refine fr_iload_n (pc := 98) O 3 dX4_alter_98 rfl rfl ?_
  refine fr_iconst (pc := 99) O (v := (0 : Int32)) dX4_alter_99 (by decide) ?_
  refine fr_callVI (pc := 100) (st := []) O (tX4_puts X.2.1 hG  h) mt_X4_puts mv_X4_puts m_882 cl_X4 rfl (sM_0 hG) rfl (by decide) rfl (Nat.le_of_ble_eq_true rfl) dX4_alter_100 (fun r100 σ100 h => ?_)
  exact fr_iret (pc := 103) O dX4_alter_103 h
def qX4_alter_B92 (a1 : Int32) (a2 : Int32) (a3 : Int32) (post : Int32 → Mem → Prop) (σ : Mem) : Prop := qX4_alter_B93 a1 a2 a3 post (0 : Int32) σ
set_option maxRecDepth 20000 in
theorem kX4_alter_B92 {X : Cx} {G : Gw} (hG : fw_IsM G) (O : fw_Ok X G cX4_alter 5 RX4 2 46 (some .int)) {a1 : Int32} {a2 : Int32} {a3 : Int32} {post : Int32 → Mem → Prop}    {σ : Mem} (h : qX4_alter_B92 a1 a2 a3 post σ) : fw_At X G 5 (fw_QI X G post) 92 [(0, .ref (gad G 0)), (1, .int a1), (2, .int a2), (3, .int a3)] [.ref (gad G 0)] σ := by
  unfold qX4_alter_B92 at h
  refine fr_iconst (pc := 92) O (v := (0 : Int32)) dX4_alter_92 (by decide) ?_
  exact kX4_alter_B93 hG O  h
def qX4_alter_B72 (a1 : Int32) (a2 : Int32) (a3 : Int32) (post : Int32 → Mem → Prop) (s0 : Int32) (σ : Mem) : Prop := (qX4_isWheel a1 σ (fun r77 σ77 => ((r77 = 0 → qX4_alter_B92 a1 a2 a3 post σ77) ∧ (¬ r77 = 0 → ((s0 = 0 → qX4_alter_B92 a1 a2 a3 post σ77) ∧ (¬ s0 = 0 → qX4_alter_B93 a1 a2 a3 post (1 : Int32) σ77))))))
set_option maxRecDepth 20000 in
theorem kX4_alter_B72 {X : Cx} {G : Gw} (hG : fw_IsM G) (O : fw_Ok X G cX4_alter 5 RX4 2 46 (some .int)) {a1 : Int32} {a2 : Int32} {a3 : Int32} {post : Int32 → Mem → Prop}   {s0 : Int32} {σ : Mem} (h : qX4_alter_B72 a1 a2 a3 post s0 σ) : fw_At X G 5 (fw_QI X G post) 72 [(0, .ref (gad G 0)), (1, .int a1), (2, .int a2), (3, .int a3)] [.int s0] σ := by
  unfold qX4_alter_B72 at h
  refine fr_istore (pc := 72) O [1, 2, 3, 4, 0] (lv' := [(0, .ref (gad G 0)), (1, .int a1), (2, .int a2), (3, .int a3), (4, .int s0)]) dX4_alter_72 (by decide) rfl ?_
  refine fr_aload_n (pc := 74) O 0 dX4_alter_74 rfl rfl ?_
  refine fr_aload_n (pc := 75) O 0 dX4_alter_75 rfl rfl ?_
  refine fr_iload_n (pc := 76) O 1 dX4_alter_76 rfl rfl ?_
  refine fr_callVI (pc := 77) (st := [.ref (gad G 0)]) O (tX4_isWheel X.2.1 hG  h) mt_X4_isWheel mv_X4_isWheel m_857 cl_X4 rfl (sM_0 hG) rfl (by decide) rfl (Nat.le_of_ble_eq_true rfl) dX4_alter_77 (fun r77 σ77 h => ?_)
  refine fr_if_eq (pc := 80) (tgt := 92) O dX4_alter_80 (by decide) (fun c_80 => ?_) (fun c_80 => ?_)
  · have h := h.1 c_80
    refine fw_sub (lv' := [(0, .ref (gad G 0)), (1, .int a1), (2, .int a2), (3, .int a3)]) [0, 1, 2, 3] rfl ?_
    exact kX4_alter_B92 hG O  h
  · have h := h.2 c_80
    refine fr_iload (pc := 83) O 4 dX4_alter_83 rfl ?_
    refine fr_if_eq (pc := 85) (tgt := 92) O dX4_alter_85 (by decide) (fun c_85 => ?_) (fun c_85 => ?_)
    · have h := h.1 c_85
      refine fw_sub (lv' := [(0, .ref (gad G 0)), (1, .int a1), (2, .int a2), (3, .int a3)]) [0, 1, 2, 3] rfl ?_
      exact kX4_alter_B92 hG O  h
    · have h := h.2 c_85
      refine fr_iconst (pc := 88) O (v := (1 : Int32)) dX4_alter_88 (by decide) ?_
      refine fr_goto (pc := 89) (tgt := 93) O dX4_alter_89 (by decide) ?_
      refine fw_sub (lv' := [(0, .ref (gad G 0)), (1, .int a1), (2, .int a2), (3, .int a3)]) [0, 1, 2, 3] rfl ?_
      exact kX4_alter_B93 hG O  h
def qX4_alter_B71 (a1 : Int32) (a2 : Int32) (a3 : Int32) (post : Int32 → Mem → Prop) (σ : Mem) : Prop := qX4_alter_B72 a1 a2 a3 post (0 : Int32) σ
set_option maxRecDepth 20000 in
theorem kX4_alter_B71 {X : Cx} {G : Gw} (hG : fw_IsM G) (O : fw_Ok X G cX4_alter 5 RX4 2 46 (some .int)) {a1 : Int32} {a2 : Int32} {a3 : Int32} {post : Int32 → Mem → Prop}    {σ : Mem} (h : qX4_alter_B71 a1 a2 a3 post σ) : fw_At X G 5 (fw_QI X G post) 71 [(0, .ref (gad G 0)), (1, .int a1), (2, .int a2), (3, .int a3)] [] σ := by
  unfold qX4_alter_B71 at h
  refine fr_iconst (pc := 71) O (v := (0 : Int32)) dX4_alter_71 (by decide) ?_
  exact kX4_alter_B72 hG O  h
def qX4_alter (a1 : Int32) (a2 : Int32) (a3 : Int32) (σ : Mem) (post : Int32 → Mem → Prop) : Prop := ((¬ a2 = 0 → ((¬ a2 = (1 : Int32) → ((¬ a2 = (2 : Int32) → ((¬ a2 = (3 : Int32) → qX4_alter_B71 a1 a2 a3 post σ) ∧ (a2 = (3 : Int32) → (qX4_in a3.toInt64 (0 : Int64) (9999 : Int64) σ (fun r61 σ61 => ((r61 = 0 → qX4_alter_B71 a1 a2 a3 post σ61) ∧ (¬ r61 = 0 → qX4_alter_B72 a1 a2 a3 post (1 : Int32) σ61))))))) ∧ (a2 = (2 : Int32) → (qX4_in a3.toInt64 (0 : Int64) (9 : Int64) σ (fun r44 σ44 => qX4_alter_B72 a1 a2 a3 post r44 σ44))))) ∧ (a2 = (1 : Int32) → (qX4_in a3.toInt64 (1 : Int64) (20 : Int64) σ (fun r27 σ27 => qX4_alter_B72 a1 a2 a3 post r27 σ27))))) ∧ (a2 = 0 → (qX4_in a3.toInt64 (0 : Int64) (3 : Int64) σ (fun r10 σ10 => qX4_alter_B72 a1 a2 a3 post r10 σ10))))
set_option maxRecDepth 20000 in
theorem kX4_alter {X : Cx} {G : Gw} (hG : fw_IsM G) (O : fw_Ok X G cX4_alter 5 RX4 2 46 (some .int)) {a1 : Int32} {a2 : Int32} {a3 : Int32}  {σ : Mem} {post : Int32 → Mem → Prop} (h : qX4_alter a1 a2 a3 σ post) : fw_At X G 5 (fw_QI X G post) 0 [(0, .ref (gad G 0)), (1, .int a1), (2, .int a2), (3, .int a3)] [] σ := by
  unfold qX4_alter at h
  refine fr_iload_n (pc := 0) O 2 dX4_alter_0 rfl rfl ?_
  refine fr_if_ne (pc := 1) (tgt := 16) O dX4_alter_1 (by decide) (fun c_1 => ?_) (fun c_1 => ?_)
  · have h := h.1 c_1
    refine fr_iload_n (pc := 16) O 2 dX4_alter_16 rfl rfl ?_
    refine fr_iconst (pc := 17) O (v := (1 : Int32)) dX4_alter_17 (by decide) ?_
    refine fr_icmp_ne (pc := 18) (tgt := 33) O dX4_alter_18 (by decide) (fun c_18 => ?_) (fun c_18 => ?_)
    · have h := h.1 c_18
      refine fr_iload_n (pc := 33) O 2 dX4_alter_33 rfl rfl ?_
      refine fr_iconst (pc := 34) O (v := (2 : Int32)) dX4_alter_34 (by decide) ?_
      refine fr_icmp_ne (pc := 35) (tgt := 50) O dX4_alter_35 (by decide) (fun c_35 => ?_) (fun c_35 => ?_)
      · have h := h.1 c_35
        refine fr_iload_n (pc := 50) O 2 dX4_alter_50 rfl rfl ?_
        refine fr_iconst (pc := 51) O (v := (3 : Int32)) dX4_alter_51 (by decide) ?_
        refine fr_icmp_ne (pc := 52) (tgt := 71) O dX4_alter_52 (by decide) (fun c_52 => ?_) (fun c_52 => ?_)
        · have h := h.1 c_52
          exact kX4_alter_B71 hG O  h
        · have h := h.2 c_52
          refine fr_iload_n (pc := 55) O 3 dX4_alter_55 rfl rfl ?_
          refine fr_i2l (pc := 56) O dX4_alter_56 ?_
          refine fr_lconst (pc := 57) O (v := (0 : Int64)) dX4_alter_57 (by decide) ?_
          refine fr_ldc2 (pc := 58) O m_881 dX4_alter_58 ?_
          refine fr_callSI (pc := 61) (st := []) O (tX4_in X.2.1 hG  h) mt_X4_in m_798 m_797 rfl (by decide) rfl (Nat.le_of_ble_eq_true rfl) dX4_alter_61 (fun r61 σ61 h => ?_)
          refine fr_if_eq (pc := 64) (tgt := 71) O dX4_alter_64 (by decide) (fun c_64 => ?_) (fun c_64 => ?_)
          · have h := h.1 c_64
            exact kX4_alter_B71 hG O  h
          · have h := h.2 c_64
            refine fr_iconst (pc := 67) O (v := (1 : Int32)) dX4_alter_67 (by decide) ?_
            refine fr_goto (pc := 68) (tgt := 72) O dX4_alter_68 (by decide) ?_
            exact kX4_alter_B72 hG O  h
      · have h := h.2 c_35
        refine fr_iload_n (pc := 38) O 3 dX4_alter_38 rfl rfl ?_
        refine fr_i2l (pc := 39) O dX4_alter_39 ?_
        refine fr_lconst (pc := 40) O (v := (0 : Int64)) dX4_alter_40 (by decide) ?_
        refine fr_ldc2 (pc := 41) O m_880 dX4_alter_41 ?_
        refine fr_callSI (pc := 44) (st := []) O (tX4_in X.2.1 hG  h) mt_X4_in m_798 m_797 rfl (by decide) rfl (Nat.le_of_ble_eq_true rfl) dX4_alter_44 (fun r44 σ44 h => ?_)
        refine fr_goto (pc := 47) (tgt := 72) O dX4_alter_47 (by decide) ?_
        exact kX4_alter_B72 hG O  h
    · have h := h.2 c_18
      refine fr_iload_n (pc := 21) O 3 dX4_alter_21 rfl rfl ?_
      refine fr_i2l (pc := 22) O dX4_alter_22 ?_
      refine fr_lconst (pc := 23) O (v := (1 : Int64)) dX4_alter_23 (by decide) ?_
      refine fr_ldc2 (pc := 24) O m_879 dX4_alter_24 ?_
      refine fr_callSI (pc := 27) (st := []) O (tX4_in X.2.1 hG  h) mt_X4_in m_798 m_797 rfl (by decide) rfl (Nat.le_of_ble_eq_true rfl) dX4_alter_27 (fun r27 σ27 h => ?_)
      refine fr_goto (pc := 30) (tgt := 72) O dX4_alter_30 (by decide) ?_
      exact kX4_alter_B72 hG O  h
  · have h := h.2 c_1
    refine fr_iload_n (pc := 4) O 3 dX4_alter_4 rfl rfl ?_
    refine fr_i2l (pc := 5) O dX4_alter_5 ?_
    refine fr_lconst (pc := 6) O (v := (0 : Int64)) dX4_alter_6 (by decide) ?_
    refine fr_ldc2 (pc := 7) O m_878 dX4_alter_7 ?_
    refine fr_callSI (pc := 10) (st := []) O (tX4_in X.2.1 hG  h) mt_X4_in m_798 m_797 rfl (by decide) rfl (Nat.le_of_ble_eq_true rfl) dX4_alter_10 (fun r10 σ10 h => ?_)
    refine fr_goto (pc := 13) (tgt := 72) O dX4_alter_13 (by decide) ?_
    exact kX4_alter_B72 hG O  h
theorem tX4_alter (l : Launch) {G : Gw} (hG : fw_IsM G) {a1 : Int32} {a2 : Int32} {a3 : Int32}  {σ : Mem} {post : Int32 → Mem → Prop} (h : qX4_alter a1 a2 a3 σ post) : fw_CI l G yX4_alter cX4_alter 5 .int 2 46 [.ref (gad G 0), .int a1, .int a2, .int a3] σ post := fw_ofI (sok_M hG) (by decide) (Nat.le_of_ble_eq_true rfl) (fun X O => kX4_alter hG O  h)
def qX4_shaft (a1 : Int32) (σ : Mem) (post : Int32 → Mem → Prop) : Prop := (qX4_in a1.toInt64 (1 : Int64) (20 : Int64) σ (fun r7 σ7 => (qX4_puts r7 (34 : Int32) a1 (5 : Int32) σ7 (fun r14 σ14 => post r14 σ14))))
set_option maxRecDepth 20000 in
theorem kX4_shaft {X : Cx} {G : Gw} (hG : fw_IsM G) (O : fw_Ok X G cX4_shaft 2 RX4 1 25 (some .int)) {a1 : Int32}  {σ : Mem} {post : Int32 → Mem → Prop} (h : qX4_shaft a1 σ post) : fw_At X G 2 (fw_QI X G post) 0 [(0, .ref (gad G 0)), (1, .int a1)] [] σ := by
  unfold qX4_shaft at h
  refine fr_aload_n (pc := 0) O 0 dX4_shaft_0 rfl rfl ?_
  refine fr_iload_n (pc := 1) O 1 dX4_shaft_1 rfl rfl ?_
  refine fr_i2l (pc := 2) O dX4_shaft_2 ?_
  refine fr_lconst (pc := 3) O (v := (1 : Int64)) dX4_shaft_3 (by decide) ?_
  refine fr_ldc2 (pc := 4) O m_879 dX4_shaft_4 ?_
  refine fr_callSI (pc := 7) (st := [.ref (gad G 0)]) O (tX4_in X.2.1 hG  h) mt_X4_in m_798 m_797 rfl (by decide) rfl (Nat.le_of_ble_eq_true rfl) dX4_shaft_7 (fun r7 σ7 h => ?_)
  refine fr_bipush (pc := 10) O (v := (34 : Int32)) dX4_shaft_10 (by decide) ?_
  refine fr_iload_n (pc := 12) O 1 dX4_shaft_12 rfl rfl ?_
  refine fr_iconst (pc := 13) O (v := (5 : Int32)) dX4_shaft_13 (by decide) ?_
  refine fr_callVI (pc := 14) (st := []) O (tX4_puts X.2.1 hG  h) mt_X4_puts mv_X4_puts m_882 cl_X4 rfl (sM_0 hG) rfl (by decide) rfl (Nat.le_of_ble_eq_true rfl) dX4_shaft_14 (fun r14 σ14 h => ?_)
  exact fr_iret (pc := 17) O dX4_shaft_17 h
theorem tX4_shaft (l : Launch) {G : Gw} (hG : fw_IsM G) {a1 : Int32}  {σ : Mem} {post : Int32 → Mem → Prop} (h : qX4_shaft a1 σ post) : fw_CI l G yX4_shaft cX4_shaft 2 .int 1 25 [.ref (gad G 0), .int a1] σ post := fw_ofI (sok_M hG) (by decide) (Nat.le_of_ble_eq_true rfl) (fun X O => kX4_shaft hG O  h)
def qX4_put_B36 (a1 : Int32) (a2 : Int32) (a3 : Int32) (post : Int32 → Mem → Prop) (σ : Mem) : Prop := post (-1 : Int32) σ
set_option maxRecDepth 20000 in
theorem kX4_put_B36 {X : Cx} {G : Gw} (hG : fw_IsM G) (O : fw_Ok X G cX4_put 5 RX4 1 25 (some .int)) {a1 : Int32} {a2 : Int32} {a3 : Int32} {post : Int32 → Mem → Prop}    {σ : Mem} (h : qX4_put_B36 a1 a2 a3 post σ) : fw_At X G 5 (fw_QI X G post) 36 [(0, .ref (gad G 0)), (1, .int a1), (2, .int a2), (3, .int a3)] [] σ := by
  unfold qX4_put_B36 at h
  refine fr_iconst (pc := 36) O (v := (-1 : Int32)) dX4_put_36 (by decide) ?_
  exact fr_iret (pc := 37) O dX4_put_37 h
def qX4_put (a1 : Int32) (a2 : Int32) (a3 : Int32) (σ : Mem) (post : Int32 → Mem → Prop) : Prop := (qX4_in a1.toInt64 (0 : Int64) (3 : Int64) σ (fun r6 σ6 => ((r6 = 0 → qX4_put_B36 a1 a2 a3 post σ6) ∧ (¬ r6 = 0 → (qX4_in a2.toInt64 (1 : Int64) (20 : Int64) σ6 (fun r18 σ18 => ((r18 = 0 → qX4_put_B36 a1 a2 a3 post σ18) ∧ (¬ r18 = 0 → (qX4_in a3.toInt64 (0 : Int64) (9 : Int64) σ18 (fun r30 σ30 => ((¬ r30 = 0 → (vp_in (16 : Int32) 234 ∧ (∀ y4_45 : Int32, y4_45 = σ30 1 (16 : Int32).toNatClampNeg → ((¬ y4_45 = (4 : Int32) → (vp_in y4_45 234 ∧ (∀ σ63 : Mem, σ63 = up2 σ30 1 y4_45.toNatClampNeg a1 → (vp_in ((4 : Int32) + y4_45) 234 ∧ (∀ σ73 : Mem, σ73 = up2 σ63 1 ((4 : Int32) + y4_45).toNatClampNeg a2 → (vp_in ((8 : Int32) + y4_45) 234 ∧ (∀ σ84 : Mem, σ84 = up2 σ73 1 ((8 : Int32) + y4_45).toNatClampNeg a3 → (vp_in ((12 : Int32) + y4_45) 234 ∧ (∀ σ95 : Mem, σ95 = up2 σ84 1 ((12 : Int32) + y4_45).toNatClampNeg (0 : Int32) → (∀ σ106 : Mem, σ106 = up2 σ95 1 (16 : Int32).toNatClampNeg ((σ95 1 (16 : Int32).toNatClampNeg) + (1 : Int32)) → post (σ106 1 (16 : Int32).toNatClampNeg) σ106)))))))))) ∧ (y4_45 = (4 : Int32) → post (-3 : Int32) σ30))))) ∧ (r30 = 0 → qX4_put_B36 a1 a2 a3 post σ30))))))))))))
set_option maxRecDepth 20000 in
theorem kX4_put {X : Cx} {G : Gw} (hG : fw_IsM G) (O : fw_Ok X G cX4_put 5 RX4 1 25 (some .int)) {a1 : Int32} {a2 : Int32} {a3 : Int32}  {σ : Mem} {post : Int32 → Mem → Prop} (h : qX4_put a1 a2 a3 σ post) : fw_At X G 5 (fw_QI X G post) 0 [(0, .ref (gad G 0)), (1, .int a1), (2, .int a2), (3, .int a3)] [] σ := by
  unfold qX4_put at h
  refine fr_iload_n (pc := 0) O 1 dX4_put_0 rfl rfl ?_
  refine fr_i2l (pc := 1) O dX4_put_1 ?_
  refine fr_lconst (pc := 2) O (v := (0 : Int64)) dX4_put_2 (by decide) ?_
  refine fr_ldc2 (pc := 3) O m_878 dX4_put_3 ?_
  refine fr_callSI (pc := 6) (st := []) O (tX4_in X.2.1 hG  h) mt_X4_in m_798 m_797 rfl (by decide) rfl (Nat.le_of_ble_eq_true rfl) dX4_put_6 (fun r6 σ6 h => ?_)
  refine fr_if_eq (pc := 9) (tgt := 36) O dX4_put_9 (by decide) (fun c_9 => ?_) (fun c_9 => ?_)
  · have h := h.1 c_9
    exact kX4_put_B36 hG O  h
  · have h := h.2 c_9
    refine fr_iload_n (pc := 12) O 2 dX4_put_12 rfl rfl ?_
    refine fr_i2l (pc := 13) O dX4_put_13 ?_
    refine fr_lconst (pc := 14) O (v := (1 : Int64)) dX4_put_14 (by decide) ?_
    refine fr_ldc2 (pc := 15) O m_879 dX4_put_15 ?_
    refine fr_callSI (pc := 18) (st := []) O (tX4_in X.2.1 hG  h) mt_X4_in m_798 m_797 rfl (by decide) rfl (Nat.le_of_ble_eq_true rfl) dX4_put_18 (fun r18 σ18 h => ?_)
    refine fr_if_eq (pc := 21) (tgt := 36) O dX4_put_21 (by decide) (fun c_21 => ?_) (fun c_21 => ?_)
    · have h := h.1 c_21
      exact kX4_put_B36 hG O  h
    · have h := h.2 c_21
      refine fr_iload_n (pc := 24) O 3 dX4_put_24 rfl rfl ?_
      refine fr_i2l (pc := 25) O dX4_put_25 ?_
      refine fr_lconst (pc := 26) O (v := (0 : Int64)) dX4_put_26 (by decide) ?_
      refine fr_ldc2 (pc := 27) O m_880 dX4_put_27 ?_
      refine fr_callSI (pc := 30) (st := []) O (tX4_in X.2.1 hG  h) mt_X4_in m_798 m_797 rfl (by decide) rfl (Nat.le_of_ble_eq_true rfl) dX4_put_30 (fun r30 σ30 h => ?_)
      refine fr_if_ne (pc := 33) (tgt := 38) O dX4_put_33 (by decide) (fun c_33 => ?_) (fun c_33 => ?_)
      · have h := h.1 c_33
        refine fr_aload_n (pc := 38) O 0 dX4_put_38 rfl rfl ?_
        refine fr_get (pc := 39) (k := 0) (v := .ref (gad G 1)) O cl_X4 m_713 (sM_0 hG) (by decide) rfl rfl dX4_put_39 ?_
        refine fr_bipush (pc := 42) O (v := (16 : Int32)) dX4_put_42 (by decide) ?_
        have hi_44 := h.1
        have h := h.2
        refine fr_iald (pc := 44) O (sM_1 hG) hi_44 dX4_put_44 ?_
        refine fr_nm (fun y4_45 e_y4_45 => ?_)
        have h := h y4_45 e_y4_45
        refine fr_istore (pc := 45) O [1, 2, 3, 4, 0] (lv' := [(0, .ref (gad G 0)), (1, .int a1), (2, .int a2), (3, .int a3), (4, .int y4_45)]) dX4_put_45 (by decide) rfl ?_
        refine fr_iload (pc := 47) O 4 dX4_put_47 rfl ?_
        refine fr_iconst (pc := 49) O (v := (4 : Int32)) dX4_put_49 (by decide) ?_
        refine fr_icmp_ne (pc := 50) (tgt := 56) O dX4_put_50 (by decide) (fun c_50 => ?_) (fun c_50 => ?_)
        · have h := h.1 c_50
          refine fr_aload_n (pc := 56) O 0 dX4_put_56 rfl rfl ?_
          refine fr_get (pc := 57) (k := 0) (v := .ref (gad G 1)) O cl_X4 m_713 (sM_0 hG) (by decide) rfl rfl dX4_put_57 ?_
          refine fr_iload (pc := 60) O 4 dX4_put_60 rfl ?_
          refine fr_iload_n (pc := 62) O 1 dX4_put_62 rfl rfl ?_
          have hi_63 := h.1
          have h := h.2
          refine fr_iast (pc := 63) O (sM_1 hG) hi_63 dX4_put_63 (fun σ63 e_σ63 => ?_)
          have h := h σ63 e_σ63
          refine fr_aload_n (pc := 64) O 0 dX4_put_64 rfl rfl ?_
          refine fr_get (pc := 65) (k := 0) (v := .ref (gad G 1)) O cl_X4 m_713 (sM_0 hG) (by decide) rfl rfl dX4_put_65 ?_
          refine fr_iconst (pc := 68) O (v := (4 : Int32)) dX4_put_68 (by decide) ?_
          refine fr_iload (pc := 69) O 4 dX4_put_69 rfl ?_
          refine fr_iadd (pc := 71) O dX4_put_71 ?_
          refine fr_iload_n (pc := 72) O 2 dX4_put_72 rfl rfl ?_
          have hi_73 := h.1
          have h := h.2
          refine fr_iast (pc := 73) O (sM_1 hG) hi_73 dX4_put_73 (fun σ73 e_σ73 => ?_)
          have h := h σ73 e_σ73
          refine fr_aload_n (pc := 74) O 0 dX4_put_74 rfl rfl ?_
          refine fr_get (pc := 75) (k := 0) (v := .ref (gad G 1)) O cl_X4 m_713 (sM_0 hG) (by decide) rfl rfl dX4_put_75 ?_
          refine fr_bipush (pc := 78) O (v := (8 : Int32)) dX4_put_78 (by decide) ?_
          refine fr_iload (pc := 80) O 4 dX4_put_80 rfl ?_
          refine fr_iadd (pc := 82) O dX4_put_82 ?_
          refine fr_iload_n (pc := 83) O 3 dX4_put_83 rfl rfl ?_
          have hi_84 := h.1
          have h := h.2
          refine fr_iast (pc := 84) O (sM_1 hG) hi_84 dX4_put_84 (fun σ84 e_σ84 => ?_)
          have h := h σ84 e_σ84
          refine fr_aload_n (pc := 85) O 0 dX4_put_85 rfl rfl ?_
          refine fr_get (pc := 86) (k := 0) (v := .ref (gad G 1)) O cl_X4 m_713 (sM_0 hG) (by decide) rfl rfl dX4_put_86 ?_
          refine fr_bipush (pc := 89) O (v := (12 : Int32)) dX4_put_89 (by decide) ?_
          refine fr_iload (pc := 91) O 4 dX4_put_91 rfl ?_
          refine fr_iadd (pc := 93) O dX4_put_93 ?_
          refine fr_iconst (pc := 94) O (v := (0 : Int32)) dX4_put_94 (by decide) ?_
          have hi_95 := h.1
          have h := h.2
          refine fr_iast (pc := 95) O (sM_1 hG) hi_95 dX4_put_95 (fun σ95 e_σ95 => ?_)
          have h := h σ95 e_σ95
          refine fr_aload_n (pc := 96) O 0 dX4_put_96 rfl rfl ?_
          refine fr_get (pc := 97) (k := 0) (v := .ref (gad G 1)) O cl_X4 m_713 (sM_0 hG) (by decide) rfl rfl dX4_put_97 ?_
          refine fr_bipush (pc := 100) O (v := (16 : Int32)) dX4_put_100 (by decide) ?_
          refine fr_dup2 (pc := 102) O dX4_put_102 rfl rfl ?_
          refine fr_iald (pc := 103) O (sM_1 hG) hi_44 dX4_put_103 ?_
          refine fr_iconst (pc := 104) O (v := (1 : Int32)) dX4_put_104 (by decide) ?_
          refine fr_iadd (pc := 105) O dX4_put_105 ?_
          refine fr_iast (pc := 106) O (sM_1 hG) hi_44 dX4_put_106 (fun σ106 e_σ106 => ?_)
          have h := h σ106 e_σ106
          refine fr_aload_n (pc := 107) O 0 dX4_put_107 rfl rfl ?_
          refine fr_get (pc := 108) (k := 0) (v := .ref (gad G 1)) O cl_X4 m_713 (sM_0 hG) (by decide) rfl rfl dX4_put_108 ?_
          refine fr_bipush (pc := 111) O (v := (16 : Int32)) dX4_put_111 (by decide) ?_
          refine fr_iald (pc := 113) O (sM_1 hG) hi_44 dX4_put_113 ?_
          exact fr_iret (pc := 114) O dX4_put_114 h
        · have h := h.2 c_50
          refine fr_bipush (pc := 53) O (v := (-3 : Int32)) dX4_put_53 (by decide) ?_
          exact fr_iret (pc := 55) O dX4_put_55 h
      · have h := h.2 c_33
        exact kX4_put_B36 hG O  h
theorem tX4_put (l : Launch) {G : Gw} (hG : fw_IsM G) {a1 : Int32} {a2 : Int32} {a3 : Int32}  {σ : Mem} {post : Int32 → Mem → Prop} (h : qX4_put a1 a2 a3 σ post) : fw_CI l G yX4_put cX4_put 5 .int 1 25 [.ref (gad G 0), .int a1, .int a2, .int a3] σ post := fw_ofI (sok_M hG) (by decide) (Nat.le_of_ble_eq_true rfl) (fun X O => kX4_put hG O  h)
def qX4_cut (a1 : Int32) (σ : Mem) (post : Int32 → Mem → Prop) : Prop := (vp_in (16 : Int32) 234 ∧ (qX4_in a1.toInt64 (0 : Int64) ((σ 1 (16 : Int32).toNatClampNeg).toInt64) σ (fun r12 σ12 => (qX4_puts r12 (16 : Int32) a1 (0 : Int32) σ12 (fun r19 σ19 => post r19 σ19)))))
set_option maxRecDepth 20000 in
theorem kX4_cut {X : Cx} {G : Gw} (hG : fw_IsM G) (O : fw_Ok X G cX4_cut 2 RX4 1 25 (some .int)) {a1 : Int32}  {σ : Mem} {post : Int32 → Mem → Prop} (h : qX4_cut a1 σ post) : fw_At X G 2 (fw_QI X G post) 0 [(0, .ref (gad G 0)), (1, .int a1)] [] σ := by
  unfold qX4_cut at h
  refine fr_aload_n (pc := 0) O 0 dX4_cut_0 rfl rfl ?_
  refine fr_iload_n (pc := 1) O 1 dX4_cut_1 rfl rfl ?_
  refine fr_i2l (pc := 2) O dX4_cut_2 ?_
  refine fr_lconst (pc := 3) O (v := (0 : Int64)) dX4_cut_3 (by decide) ?_
  refine fr_aload_n (pc := 4) O 0 dX4_cut_4 rfl rfl ?_
  refine fr_get (pc := 5) (k := 0) (v := .ref (gad G 1)) O cl_X4 m_713 (sM_0 hG) (by decide) rfl rfl dX4_cut_5 ?_
  refine fr_bipush (pc := 8) O (v := (16 : Int32)) dX4_cut_8 (by decide) ?_
  have hi_10 := h.1
  have h := h.2
  refine fr_iald (pc := 10) O (sM_1 hG) hi_10 dX4_cut_10 ?_
  refine fr_i2l (pc := 11) O dX4_cut_11 ?_
  refine fr_callSI (pc := 12) (st := [.ref (gad G 0)]) O (tX4_in X.2.1 hG  h) mt_X4_in m_798 m_797 rfl (by decide) rfl (Nat.le_of_ble_eq_true rfl) dX4_cut_12 (fun r12 σ12 h => ?_)
  refine fr_bipush (pc := 15) O (v := (16 : Int32)) dX4_cut_15 (by decide) ?_
  refine fr_iload_n (pc := 17) O 1 dX4_cut_17 rfl rfl ?_
  refine fr_iconst (pc := 18) O (v := (0 : Int32)) dX4_cut_18 (by decide) ?_
  refine fr_callVI (pc := 19) (st := []) O (tX4_puts X.2.1 hG  h) mt_X4_puts mv_X4_puts m_882 cl_X4 rfl (sM_0 hG) rfl (by decide) rfl (Nat.le_of_ble_eq_true rfl) dX4_cut_19 (fun r19 σ19 h => ?_)
  exact fr_iret (pc := 22) O dX4_cut_22 h
theorem tX4_cut (l : Launch) {G : Gw} (hG : fw_IsM G) {a1 : Int32}  {σ : Mem} {post : Int32 → Mem → Prop} (h : qX4_cut a1 σ post) : fw_CI l G yX4_cut cX4_cut 2 .int 1 25 [.ref (gad G 0), .int a1] σ post := fw_ofI (sok_M hG) (by decide) (Nat.le_of_ble_eq_true rfl) (fun X O => kX4_cut hG O  h)
def qX4_set_B26 (a1 : Int32) (a2 : Int32) (post : Int32 → Mem → Prop) (s1 : Int32) (σ : Mem) : Prop := (qX4_puts s1 ((17 : Int32) + a1) a2 (0 : Int32) σ (fun r32 σ32 => post r32 σ32))
set_option maxRecDepth 20000 in
theorem kX4_set_B26 {X : Cx} {G : Gw} (hG : fw_IsM G) (O : fw_Ok X G cX4_set 3 RX4 2 46 (some .int)) {a1 : Int32} {a2 : Int32} {post : Int32 → Mem → Prop}   {s1 : Int32} {σ : Mem} (h : qX4_set_B26 a1 a2 post s1 σ) : fw_At X G 3 (fw_QI X G post) 26 [(0, .ref (gad G 0)), (1, .int a1), (2, .int a2)] [.int s1, .ref (gad G 0)] σ := by
  unfold qX4_set_B26 at h
  refine fr_bipush (pc := 26) O (v := (17 : Int32)) dX4_set_26 (by decide) ?_
  refine fr_iload_n (pc := 28) O 1 dX4_set_28 rfl rfl ?_
  refine fr_iadd (pc := 29) O dX4_set_29 ?_
  refine fr_iload_n (pc := 30) O 2 dX4_set_30 rfl rfl ?_
  refine fr_iconst (pc := 31) O (v := (0 : Int32)) dX4_set_31 (by decide) ?_
  refine fr_callVI (pc := 32) (st := []) O (tX4_puts X.2.1 hG  h) mt_X4_puts mv_X4_puts m_882 cl_X4 rfl (sM_0 hG) rfl (by decide) rfl (Nat.le_of_ble_eq_true rfl) dX4_set_32 (fun r32 σ32 h => ?_)
  exact fr_iret (pc := 35) O dX4_set_35 h
def qX4_set_B25 (a1 : Int32) (a2 : Int32) (post : Int32 → Mem → Prop) (σ : Mem) : Prop := qX4_set_B26 a1 a2 post (0 : Int32) σ
set_option maxRecDepth 20000 in
theorem kX4_set_B25 {X : Cx} {G : Gw} (hG : fw_IsM G) (O : fw_Ok X G cX4_set 3 RX4 2 46 (some .int)) {a1 : Int32} {a2 : Int32} {post : Int32 → Mem → Prop}    {σ : Mem} (h : qX4_set_B25 a1 a2 post σ) : fw_At X G 3 (fw_QI X G post) 25 [(0, .ref (gad G 0)), (1, .int a1), (2, .int a2)] [.ref (gad G 0)] σ := by
  unfold qX4_set_B25 at h
  refine fr_iconst (pc := 25) O (v := (0 : Int32)) dX4_set_25 (by decide) ?_
  exact kX4_set_B26 hG O  h
def qX4_set (a1 : Int32) (a2 : Int32) (σ : Mem) (post : Int32 → Mem → Prop) : Prop := (qX4_isAct a1 σ (fun r3 σ3 => ((r3 = 0 → qX4_set_B25 a1 a2 post σ3) ∧ (¬ r3 = 0 → (qX4_in a2.toInt64 (0 : Int64) (203 : Int64) σ3 (fun r15 σ15 => ((r15 = 0 → qX4_set_B25 a1 a2 post σ15) ∧ (¬ r15 = 0 → qX4_set_B26 a1 a2 post (1 : Int32) σ15))))))))
set_option maxRecDepth 20000 in
theorem kX4_set {X : Cx} {G : Gw} (hG : fw_IsM G) (O : fw_Ok X G cX4_set 3 RX4 2 46 (some .int)) {a1 : Int32} {a2 : Int32}  {σ : Mem} {post : Int32 → Mem → Prop} (h : qX4_set a1 a2 σ post) : fw_At X G 3 (fw_QI X G post) 0 [(0, .ref (gad G 0)), (1, .int a1), (2, .int a2)] [] σ := by
  unfold qX4_set at h
  refine fr_aload_n (pc := 0) O 0 dX4_set_0 rfl rfl ?_
  refine fr_aload_n (pc := 1) O 0 dX4_set_1 rfl rfl ?_
  refine fr_iload_n (pc := 2) O 1 dX4_set_2 rfl rfl ?_
  refine fr_callVI (pc := 3) (st := [.ref (gad G 0)]) O (tX4_isAct X.2.1 hG  h) mt_X4_isAct mv_X4_isAct m_870 cl_X4 rfl (sM_0 hG) rfl (by decide) rfl (Nat.le_of_ble_eq_true rfl) dX4_set_3 (fun r3 σ3 h => ?_)
  refine fr_if_eq (pc := 6) (tgt := 25) O dX4_set_6 (by decide) (fun c_6 => ?_) (fun c_6 => ?_)
  · have h := h.1 c_6
    exact kX4_set_B25 hG O  h
  · have h := h.2 c_6
    refine fr_iload_n (pc := 9) O 2 dX4_set_9 rfl rfl ?_
    refine fr_i2l (pc := 10) O dX4_set_10 ?_
    refine fr_lconst (pc := 11) O (v := (0 : Int64)) dX4_set_11 (by decide) ?_
    refine fr_ldc2 (pc := 12) O m_902 dX4_set_12 ?_
    refine fr_callSI (pc := 15) (st := [.ref (gad G 0)]) O (tX4_in X.2.1 hG  h) mt_X4_in m_798 m_797 rfl (by decide) rfl (Nat.le_of_ble_eq_true rfl) dX4_set_15 (fun r15 σ15 h => ?_)
    refine fr_if_eq (pc := 18) (tgt := 25) O dX4_set_18 (by decide) (fun c_18 => ?_) (fun c_18 => ?_)
    · have h := h.1 c_18
      exact kX4_set_B25 hG O  h
    · have h := h.2 c_18
      refine fr_iconst (pc := 21) O (v := (1 : Int32)) dX4_set_21 (by decide) ?_
      refine fr_goto (pc := 22) (tgt := 26) O dX4_set_22 (by decide) ?_
      exact kX4_set_B26 hG O  h
theorem tX4_set (l : Launch) {G : Gw} (hG : fw_IsM G) {a1 : Int32} {a2 : Int32}  {σ : Mem} {post : Int32 → Mem → Prop} (h : qX4_set a1 a2 σ post) : fw_CI l G yX4_set cX4_set 3 .int 2 46 [.ref (gad G 0), .int a1, .int a2] σ post := fw_ofI (sok_M hG) (by decide) (Nat.le_of_ble_eq_true rfl) (fun X O => kX4_set hG O  h)
def qX4_adds (a1 : Int32) (σ : Mem) (post : Int32 → Mem → Prop) : Prop := (qX4_in a1.toInt64 (0 : Int64) (203 : Int64) σ (fun r6 σ6 => ((¬ r6 = 0 → (vp_in (33 : Int32) 234 ∧ ((¬ (σ6 1 (33 : Int32).toNatClampNeg) = (16 : Int32) → (vp_in ((17 : Int32) + (σ6 1 (33 : Int32).toNatClampNeg)) 234 ∧ (∀ σ44 : Mem, σ44 = up2 σ6 1 ((17 : Int32) + (σ6 1 (33 : Int32).toNatClampNeg)).toNatClampNeg a1 → (∀ σ55 : Mem, σ55 = up2 σ44 1 (33 : Int32).toNatClampNeg ((σ44 1 (33 : Int32).toNatClampNeg) + (1 : Int32)) → post (σ55 1 (33 : Int32).toNatClampNeg) σ55)))) ∧ ((σ6 1 (33 : Int32).toNatClampNeg) = (16 : Int32) → post (-3 : Int32) σ6)))) ∧ (r6 = 0 → post (-1 : Int32) σ6))))
set_option maxRecDepth 20000 in
theorem kX4_adds {X : Cx} {G : Gw} (hG : fw_IsM G) (O : fw_Ok X G cX4_adds 2 RX4 1 25 (some .int)) {a1 : Int32}  {σ : Mem} {post : Int32 → Mem → Prop} (h : qX4_adds a1 σ post) : fw_At X G 2 (fw_QI X G post) 0 [(0, .ref (gad G 0)), (1, .int a1)] [] σ := by
  unfold qX4_adds at h
  refine fr_iload_n (pc := 0) O 1 dX4_adds_0 rfl rfl ?_
  refine fr_i2l (pc := 1) O dX4_adds_1 ?_
  refine fr_lconst (pc := 2) O (v := (0 : Int64)) dX4_adds_2 (by decide) ?_
  refine fr_ldc2 (pc := 3) O m_902 dX4_adds_3 ?_
  refine fr_callSI (pc := 6) (st := []) O (tX4_in X.2.1 hG  h) mt_X4_in m_798 m_797 rfl (by decide) rfl (Nat.le_of_ble_eq_true rfl) dX4_adds_6 (fun r6 σ6 h => ?_)
  refine fr_if_ne (pc := 9) (tgt := 14) O dX4_adds_9 (by decide) (fun c_9 => ?_) (fun c_9 => ?_)
  · have h := h.1 c_9
    refine fr_aload_n (pc := 14) O 0 dX4_adds_14 rfl rfl ?_
    refine fr_get (pc := 15) (k := 0) (v := .ref (gad G 1)) O cl_X4 m_713 (sM_0 hG) (by decide) rfl rfl dX4_adds_15 ?_
    refine fr_bipush (pc := 18) O (v := (33 : Int32)) dX4_adds_18 (by decide) ?_
    have hi_20 := h.1
    have h := h.2
    refine fr_iald (pc := 20) O (sM_1 hG) hi_20 dX4_adds_20 ?_
    refine fr_bipush (pc := 21) O (v := (16 : Int32)) dX4_adds_21 (by decide) ?_
    refine fr_icmp_ne (pc := 23) (tgt := 29) O dX4_adds_23 (by decide) (fun c_23 => ?_) (fun c_23 => ?_)
    · have h := h.1 c_23
      refine fr_aload_n (pc := 29) O 0 dX4_adds_29 rfl rfl ?_
      refine fr_get (pc := 30) (k := 0) (v := .ref (gad G 1)) O cl_X4 m_713 (sM_0 hG) (by decide) rfl rfl dX4_adds_30 ?_
      refine fr_bipush (pc := 33) O (v := (17 : Int32)) dX4_adds_33 (by decide) ?_
      refine fr_aload_n (pc := 35) O 0 dX4_adds_35 rfl rfl ?_
      refine fr_get (pc := 36) (k := 0) (v := .ref (gad G 1)) O cl_X4 m_713 (sM_0 hG) (by decide) rfl rfl dX4_adds_36 ?_
      refine fr_bipush (pc := 39) O (v := (33 : Int32)) dX4_adds_39 (by decide) ?_
      refine fr_iald (pc := 41) O (sM_1 hG) hi_20 dX4_adds_41 ?_
      refine fr_iadd (pc := 42) O dX4_adds_42 ?_
      refine fr_iload_n (pc := 43) O 1 dX4_adds_43 rfl rfl ?_
      have hi_44 := h.1
      have h := h.2
      refine fr_iast (pc := 44) O (sM_1 hG) hi_44 dX4_adds_44 (fun σ44 e_σ44 => ?_)
      have h := h σ44 e_σ44
      refine fr_aload_n (pc := 45) O 0 dX4_adds_45 rfl rfl ?_
      refine fr_get (pc := 46) (k := 0) (v := .ref (gad G 1)) O cl_X4 m_713 (sM_0 hG) (by decide) rfl rfl dX4_adds_46 ?_
      refine fr_bipush (pc := 49) O (v := (33 : Int32)) dX4_adds_49 (by decide) ?_
      refine fr_dup2 (pc := 51) O dX4_adds_51 rfl rfl ?_
      refine fr_iald (pc := 52) O (sM_1 hG) hi_20 dX4_adds_52 ?_
      refine fr_iconst (pc := 53) O (v := (1 : Int32)) dX4_adds_53 (by decide) ?_
      refine fr_iadd (pc := 54) O dX4_adds_54 ?_
      refine fr_iast (pc := 55) O (sM_1 hG) hi_20 dX4_adds_55 (fun σ55 e_σ55 => ?_)
      have h := h σ55 e_σ55
      refine fr_aload_n (pc := 56) O 0 dX4_adds_56 rfl rfl ?_
      refine fr_get (pc := 57) (k := 0) (v := .ref (gad G 1)) O cl_X4 m_713 (sM_0 hG) (by decide) rfl rfl dX4_adds_57 ?_
      refine fr_bipush (pc := 60) O (v := (33 : Int32)) dX4_adds_60 (by decide) ?_
      refine fr_iald (pc := 62) O (sM_1 hG) hi_20 dX4_adds_62 ?_
      exact fr_iret (pc := 63) O dX4_adds_63 h
    · have h := h.2 c_23
      refine fr_bipush (pc := 26) O (v := (-3 : Int32)) dX4_adds_26 (by decide) ?_
      exact fr_iret (pc := 28) O dX4_adds_28 h
  · have h := h.2 c_9
    refine fr_iconst (pc := 12) O (v := (-1 : Int32)) dX4_adds_12 (by decide) ?_
    exact fr_iret (pc := 13) O dX4_adds_13 h
theorem tX4_adds (l : Launch) {G : Gw} (hG : fw_IsM G) {a1 : Int32}  {σ : Mem} {post : Int32 → Mem → Prop} (h : qX4_adds a1 σ post) : fw_CI l G yX4_adds cX4_adds 2 .int 1 25 [.ref (gad G 0), .int a1] σ post := fw_ofI (sok_M hG) (by decide) (Nat.le_of_ble_eq_true rfl) (fun X O => kX4_adds hG O  h)
def qX4_add (a1 : Int32) (σ : Mem) (post : Int32 → Mem → Prop) : Prop := (qX4_adds a1 σ (fun r2 σ2 => post r2 σ2))
set_option maxRecDepth 20000 in
theorem kX4_add {X : Cx} {G : Gw} (hG : fw_IsM G) (O : fw_Ok X G cX4_add 2 RX4 2 46 (some .int)) {a1 : Int32}  {σ : Mem} {post : Int32 → Mem → Prop} (h : qX4_add a1 σ post) : fw_At X G 2 (fw_QI X G post) 0 [(0, .ref (gad G 0)), (1, .int a1)] [] σ := by
  unfold qX4_add at h
  refine fr_aload_n (pc := 0) O 0 dX4_add_0 rfl rfl ?_
  refine fr_iload_n (pc := 1) O 1 dX4_add_1 rfl rfl ?_
  refine fr_callVI (pc := 2) (st := []) O (tX4_adds X.2.1 hG  h) mt_X4_adds mv_X4_adds m_907 cl_X4 rfl (sM_0 hG) rfl (by decide) rfl (Nat.le_of_ble_eq_true rfl) dX4_add_2 (fun r2 σ2 h => ?_)
  exact fr_iret (pc := 5) O dX4_add_5 h
theorem tX4_add (l : Launch) {G : Gw} (hG : fw_IsM G) {a1 : Int32}  {σ : Mem} {post : Int32 → Mem → Prop} (h : qX4_add a1 σ post) : fw_CI l G yX4_add cX4_add 2 .int 2 46 [.ref (gad G 0), .int a1] σ post := fw_ofI (sok_M hG) (by decide) (Nat.le_of_ble_eq_true rfl) (fun X O => kX4_add hG O  h)
def qX4_drop (a1 : Int32) (σ : Mem) (post : Int32 → Mem → Prop) : Prop := (vp_in (33 : Int32) 234 ∧ (qX4_in a1.toInt64 (0 : Int64) ((σ 1 (33 : Int32).toNatClampNeg).toInt64) σ (fun r12 σ12 => (qX4_puts r12 (33 : Int32) a1 (0 : Int32) σ12 (fun r19 σ19 => post r19 σ19)))))
set_option maxRecDepth 20000 in
theorem kX4_drop {X : Cx} {G : Gw} (hG : fw_IsM G) (O : fw_Ok X G cX4_drop 2 RX4 1 25 (some .int)) {a1 : Int32}  {σ : Mem} {post : Int32 → Mem → Prop} (h : qX4_drop a1 σ post) : fw_At X G 2 (fw_QI X G post) 0 [(0, .ref (gad G 0)), (1, .int a1)] [] σ := by
  unfold qX4_drop at h
  refine fr_aload_n (pc := 0) O 0 dX4_drop_0 rfl rfl ?_
  refine fr_iload_n (pc := 1) O 1 dX4_drop_1 rfl rfl ?_
  refine fr_i2l (pc := 2) O dX4_drop_2 ?_
  refine fr_lconst (pc := 3) O (v := (0 : Int64)) dX4_drop_3 (by decide) ?_
  refine fr_aload_n (pc := 4) O 0 dX4_drop_4 rfl rfl ?_
  refine fr_get (pc := 5) (k := 0) (v := .ref (gad G 1)) O cl_X4 m_713 (sM_0 hG) (by decide) rfl rfl dX4_drop_5 ?_
  refine fr_bipush (pc := 8) O (v := (33 : Int32)) dX4_drop_8 (by decide) ?_
  have hi_10 := h.1
  have h := h.2
  refine fr_iald (pc := 10) O (sM_1 hG) hi_10 dX4_drop_10 ?_
  refine fr_i2l (pc := 11) O dX4_drop_11 ?_
  refine fr_callSI (pc := 12) (st := [.ref (gad G 0)]) O (tX4_in X.2.1 hG  h) mt_X4_in m_798 m_797 rfl (by decide) rfl (Nat.le_of_ble_eq_true rfl) dX4_drop_12 (fun r12 σ12 h => ?_)
  refine fr_bipush (pc := 15) O (v := (33 : Int32)) dX4_drop_15 (by decide) ?_
  refine fr_iload_n (pc := 17) O 1 dX4_drop_17 rfl rfl ?_
  refine fr_iconst (pc := 18) O (v := (0 : Int32)) dX4_drop_18 (by decide) ?_
  refine fr_callVI (pc := 19) (st := []) O (tX4_puts X.2.1 hG  h) mt_X4_puts mv_X4_puts m_882 cl_X4 rfl (sM_0 hG) rfl (by decide) rfl (Nat.le_of_ble_eq_true rfl) dX4_drop_19 (fun r19 σ19 h => ?_)
  exact fr_iret (pc := 22) O dX4_drop_22 h
theorem tX4_drop (l : Launch) {G : Gw} (hG : fw_IsM G) {a1 : Int32}  {σ : Mem} {post : Int32 → Mem → Prop} (h : qX4_drop a1 σ post) : fw_CI l G yX4_drop cX4_drop 2 .int 1 25 [.ref (gad G 0), .int a1] σ post := fw_ofI (sok_M hG) (by decide) (Nat.le_of_ble_eq_true rfl) (fun X O => kX4_drop hG O  h)
def qX4_turn_B36 (a1 : Int32) (post : Int32 → Mem → Prop) (σ : Mem) : Prop := (qX4_actOn (0 : Int32) a1 (0 : Int32) σ (fun σ40 => (vp_in (35 : Int32) 234 ∧ post (σ40 1 (35 : Int32).toNatClampNeg) σ40)))
set_option maxRecDepth 20000 in
theorem kX4_turn_B36 {X : Cx} {G : Gw} (hG : fw_IsM G) (O : fw_Ok X G cX4_turn 2 RX4 2 52 (some .int)) {a1 : Int32} {post : Int32 → Mem → Prop}    {σ : Mem} (h : qX4_turn_B36 a1 post σ) : fw_At X G 2 (fw_QI X G post) 36 [(0, .ref (gad G 0)), (1, .int a1)] [] σ := by
  unfold qX4_turn_B36 at h
  refine fr_aload_n (pc := 36) O 0 dX4_turn_36 rfl rfl ?_
  refine fr_iconst (pc := 37) O (v := (0 : Int32)) dX4_turn_37 (by decide) ?_
  refine fr_iload_n (pc := 38) O 1 dX4_turn_38 rfl rfl ?_
  refine fr_iconst (pc := 39) O (v := (0 : Int32)) dX4_turn_39 (by decide) ?_
  refine fr_callVV (pc := 40) (st := []) O (tX4_actOn X.2.1 hG  h) mt_X4_actOn mv_X4_actOn m_919 cl_X4 rfl (sM_0 hG) rfl (by decide) rfl (Nat.le_of_ble_eq_true rfl) dX4_turn_40 (fun σ40 h => ?_)
  refine fr_aload_n (pc := 43) O 0 dX4_turn_43 rfl rfl ?_
  refine fr_get (pc := 44) (k := 0) (v := .ref (gad G 1)) O cl_X4 m_713 (sM_0 hG) (by decide) rfl rfl dX4_turn_44 ?_
  refine fr_bipush (pc := 47) O (v := (35 : Int32)) dX4_turn_47 (by decide) ?_
  have hi_49 := h.1
  have h := h.2
  refine fr_iald (pc := 49) O (sM_1 hG) hi_49 dX4_turn_49 ?_
  exact fr_iret (pc := 50) O dX4_turn_50 h
def qX4_turn (a1 : Int32) (σ : Mem) (post : Int32 → Mem → Prop) : Prop := (qX4_in a1.toInt64 (0 : Int64) (203 : Int64) σ (fun r6 σ6 => ((¬ r6 = 0 → ((a1 < (200 : Int32) → qX4_turn_B36 a1 post σ6) ∧ (¬ a1 < (200 : Int32) → (qX4_isWheel (a1 - (200 : Int32)) σ6 (fun r27 σ27 => ((¬ r27 = 0 → qX4_turn_B36 a1 post σ27) ∧ (r27 = 0 → post (-2 : Int32) σ27))))))) ∧ (r6 = 0 → post (-1 : Int32) σ6))))
set_option maxRecDepth 20000 in
theorem kX4_turn {X : Cx} {G : Gw} (hG : fw_IsM G) (O : fw_Ok X G cX4_turn 2 RX4 2 52 (some .int)) {a1 : Int32}  {σ : Mem} {post : Int32 → Mem → Prop} (h : qX4_turn a1 σ post) : fw_At X G 2 (fw_QI X G post) 0 [(0, .ref (gad G 0)), (1, .int a1)] [] σ := by
  unfold qX4_turn at h
  refine fr_iload_n (pc := 0) O 1 dX4_turn_0 rfl rfl ?_
  refine fr_i2l (pc := 1) O dX4_turn_1 ?_
  refine fr_lconst (pc := 2) O (v := (0 : Int64)) dX4_turn_2 (by decide) ?_
  refine fr_ldc2 (pc := 3) O m_902 dX4_turn_3 ?_
  refine fr_callSI (pc := 6) (st := []) O (tX4_in X.2.1 hG  h) mt_X4_in m_798 m_797 rfl (by decide) rfl (Nat.le_of_ble_eq_true rfl) dX4_turn_6 (fun r6 σ6 h => ?_)
  refine fr_if_ne (pc := 9) (tgt := 14) O dX4_turn_9 (by decide) (fun c_9 => ?_) (fun c_9 => ?_)
  · have h := h.1 c_9
    refine fr_iload_n (pc := 14) O 1 dX4_turn_14 rfl rfl ?_
    refine fr_sipush (pc := 15) O (v := (200 : Int32)) dX4_turn_15 (by decide) ?_
    refine fr_icmp_lt (pc := 18) (tgt := 36) O dX4_turn_18 (by decide) (fun c_18 => ?_) (fun c_18 => ?_)
    · have h := h.1 c_18
      exact kX4_turn_B36 hG O  h
    · have h := h.2 c_18
      refine fr_aload_n (pc := 21) O 0 dX4_turn_21 rfl rfl ?_
      refine fr_iload_n (pc := 22) O 1 dX4_turn_22 rfl rfl ?_
      refine fr_sipush (pc := 23) O (v := (200 : Int32)) dX4_turn_23 (by decide) ?_
      refine fr_isub (pc := 26) O dX4_turn_26 ?_
      refine fr_callVI (pc := 27) (st := []) O (tX4_isWheel X.2.1 hG  h) mt_X4_isWheel mv_X4_isWheel m_857 cl_X4 rfl (sM_0 hG) rfl (by decide) rfl (Nat.le_of_ble_eq_true rfl) dX4_turn_27 (fun r27 σ27 h => ?_)
      refine fr_if_ne (pc := 30) (tgt := 36) O dX4_turn_30 (by decide) (fun c_30 => ?_) (fun c_30 => ?_)
      · have h := h.1 c_30
        exact kX4_turn_B36 hG O  h
      · have h := h.2 c_30
        refine fr_bipush (pc := 33) O (v := (-2 : Int32)) dX4_turn_33 (by decide) ?_
        exact fr_iret (pc := 35) O dX4_turn_35 h
  · have h := h.2 c_9
    refine fr_iconst (pc := 12) O (v := (-1 : Int32)) dX4_turn_12 (by decide) ?_
    exact fr_iret (pc := 13) O dX4_turn_13 h
theorem tX4_turn (l : Launch) {G : Gw} (hG : fw_IsM G) {a1 : Int32}  {σ : Mem} {post : Int32 → Mem → Prop} (h : qX4_turn a1 σ post) : fw_CI l G yX4_turn cX4_turn 2 .int 2 52 [.ref (gad G 0), .int a1] σ post := fw_ofI (sok_M hG) (by decide) (Nat.le_of_ble_eq_true rfl) (fun X O => kX4_turn hG O  h)
def qX4_ticks_L42 (a1 : Int32) (post : Int32 → Mem → Prop) (k42 : Int32 → Int32 → Mem → Prop) (x2 : Int32) (x3 : Int32) (σ : Mem) : Prop := ((a1 ≤ x3 → (vp_in (37 : Int32) 234 ∧ post ((σ 1 (37 : Int32).toNatClampNeg) - x2) σ)) ∧ (¬ a1 ≤ x3 → (qX4_tickOn (0 : Int32) (0 : Int32) σ (fun σ50 => (∀ y3_53 : Int32, y3_53 = x3 + (1 : Int32) → k42 x2 y3_53 σ50)))))
set_option maxRecDepth 20000 in
theorem kX4_ticks_L42 {X : Cx} {G : Gw} (hG : fw_IsM G) (O : fw_Ok X G cX4_ticks 4 RX4 3 75 (some .int)) {a1 : Int32} {post : Int32 → Mem → Prop} {k42 : Int32 → Int32 → Mem → Prop}  (hk42 : ∀ (x2 : Int32) (x3 : Int32) (σ : Mem), k42 x2 x3 σ → fw_At X G 4 (fw_QI X G post) 42 [(0, .ref (gad G 0)), (1, .int a1), (2, .int x2), (3, .int x3)] [] σ) {x2 : Int32} {x3 : Int32} {σ : Mem} (h : qX4_ticks_L42 a1 post k42 x2 x3 σ) : fw_At X G 4 (fw_QI X G post) 42 [(0, .ref (gad G 0)), (1, .int a1), (2, .int x2), (3, .int x3)] [] σ := by
  unfold qX4_ticks_L42 at h
  refine fr_iload_n (pc := 42) O 3 dX4_ticks_42 rfl rfl ?_
  refine fr_iload_n (pc := 43) O 1 dX4_ticks_43 rfl rfl ?_
  refine fr_icmp_ge (pc := 44) (tgt := 59) O dX4_ticks_44 (by decide) (fun c_44 => ?_) (fun c_44 => ?_)
  · have h := h.1 c_44
    refine fr_aload_n (pc := 59) O 0 dX4_ticks_59 rfl rfl ?_
    refine fr_get (pc := 60) (k := 0) (v := .ref (gad G 1)) O cl_X4 m_713 (sM_0 hG) (by decide) rfl rfl dX4_ticks_60 ?_
    refine fr_bipush (pc := 63) O (v := (37 : Int32)) dX4_ticks_63 (by decide) ?_
    have hi_65 := h.1
    have h := h.2
    refine fr_iald (pc := 65) O (sM_1 hG) hi_65 dX4_ticks_65 ?_
    refine fr_iload_n (pc := 66) O 2 dX4_ticks_66 rfl rfl ?_
    refine fr_isub (pc := 67) O dX4_ticks_67 ?_
    exact fr_iret (pc := 68) O dX4_ticks_68 h
  · have h := h.2 c_44
    refine fr_aload_n (pc := 47) O 0 dX4_ticks_47 rfl rfl ?_
    refine fr_iconst (pc := 48) O (v := (0 : Int32)) dX4_ticks_48 (by decide) ?_
    refine fr_iconst (pc := 49) O (v := (0 : Int32)) dX4_ticks_49 (by decide) ?_
    refine fr_callVV (pc := 50) (st := []) O (tX4_tickOn X.2.1 hG  h) mt_X4_tickOn mv_X4_tickOn m_928 cl_X4 rfl (sM_0 hG) rfl (by decide) rfl (Nat.le_of_ble_eq_true rfl) dX4_ticks_50 (fun σ50 h => ?_)
    refine fr_iinc (pc := 53) O 3 [1, 2, 3, 0] (w := (1 : Int32)) (lvF := fun y3_53 => [(0, .ref (gad G 0)), (1, .int a1), (2, .int x2), (3, .int y3_53)]) dX4_ticks_53 rfl (by decide) (by decide) (fun _ => rfl) (fun y3_53 e_y3_53 => ?_)
    have h := h y3_53 e_y3_53
    refine fr_goto (pc := 56) (tgt := 42) O dX4_ticks_56 (by decide) ?_
    exact hk42 _ _ _ h
set_option maxRecDepth 20000 in
theorem kX4_ticks_L42w {X : Cx} {G : Gw} (hG : fw_IsM G) (O : fw_Ok X G cX4_ticks 4 RX4 3 75 (some .int)) {a1 : Int32} {post : Int32 → Mem → Prop}   {n9 : Nat} {x2 : Int32} {x3 : Int32} {σ : Mem} (h : it2 (qX4_ticks_L42 a1 post) n9 x2 x3 σ) : fw_At X G 4 (fw_QI X G post) 42 [(0, .ref (gad G 0)), (1, .int a1), (2, .int x2), (3, .int x3)] [] σ :=
  it2_walk (T := fun x2 x3 σ => fw_At X G 4 (fw_QI X G post) 42 [(0, .ref (gad G 0)), (1, .int a1), (2, .int x2), (3, .int x3)] [] σ) (fun k42 hk42 x2 x3 σ h => kX4_ticks_L42 hG O hk42 h) n9 x2 x3 σ h
def qX4_ticks (a1 : Int32) (σ : Mem) (post : Int32 → Mem → Prop) : Prop := (qX4_in a1.toInt64 (0 : Int64) (100 : Int64) σ (fun r6 σ6 => ((¬ r6 = 0 → (vp_in (36 : Int32) 234 ∧ ((((σ6 1 (36 : Int32).toNatClampNeg) + a1) ≤ (9999 : Int32) → (vp_in (37 : Int32) 234 ∧ (∀ y2_39 : Int32, y2_39 = σ6 1 (37 : Int32).toNatClampNeg → ∃ n9, it2 (qX4_ticks_L42 a1 post) n9 y2_39 (0 : Int32) σ6))) ∧ (¬ ((σ6 1 (36 : Int32).toNatClampNeg) + a1) ≤ (9999 : Int32) → post (-3 : Int32) σ6)))) ∧ (r6 = 0 → post (-1 : Int32) σ6))))
set_option maxRecDepth 20000 in
theorem kX4_ticks {X : Cx} {G : Gw} (hG : fw_IsM G) (O : fw_Ok X G cX4_ticks 4 RX4 3 75 (some .int)) {a1 : Int32}  {σ : Mem} {post : Int32 → Mem → Prop} (h : qX4_ticks a1 σ post) : fw_At X G 4 (fw_QI X G post) 0 [(0, .ref (gad G 0)), (1, .int a1)] [] σ := by
  unfold qX4_ticks at h
  refine fr_iload_n (pc := 0) O 1 dX4_ticks_0 rfl rfl ?_
  refine fr_i2l (pc := 1) O dX4_ticks_1 ?_
  refine fr_lconst (pc := 2) O (v := (0 : Int64)) dX4_ticks_2 (by decide) ?_
  refine fr_ldc2 (pc := 3) O m_927 dX4_ticks_3 ?_
  refine fr_callSI (pc := 6) (st := []) O (tX4_in X.2.1 hG  h) mt_X4_in m_798 m_797 rfl (by decide) rfl (Nat.le_of_ble_eq_true rfl) dX4_ticks_6 (fun r6 σ6 h => ?_)
  refine fr_if_ne (pc := 9) (tgt := 14) O dX4_ticks_9 (by decide) (fun c_9 => ?_) (fun c_9 => ?_)
  · have h := h.1 c_9
    refine fr_aload_n (pc := 14) O 0 dX4_ticks_14 rfl rfl ?_
    refine fr_get (pc := 15) (k := 0) (v := .ref (gad G 1)) O cl_X4 m_713 (sM_0 hG) (by decide) rfl rfl dX4_ticks_15 ?_
    refine fr_bipush (pc := 18) O (v := (36 : Int32)) dX4_ticks_18 (by decide) ?_
    have hi_20 := h.1
    have h := h.2
    refine fr_iald (pc := 20) O (sM_1 hG) hi_20 dX4_ticks_20 ?_
    refine fr_iload_n (pc := 21) O 1 dX4_ticks_21 rfl rfl ?_
    refine fr_iadd (pc := 22) O dX4_ticks_22 ?_
    refine fr_sipush (pc := 23) O (v := (9999 : Int32)) dX4_ticks_23 (by decide) ?_
    refine fr_icmp_le (pc := 26) (tgt := 32) O dX4_ticks_26 (by decide) (fun c_26 => ?_) (fun c_26 => ?_)
    · have h := h.1 c_26
      refine fr_aload_n (pc := 32) O 0 dX4_ticks_32 rfl rfl ?_
      refine fr_get (pc := 33) (k := 0) (v := .ref (gad G 1)) O cl_X4 m_713 (sM_0 hG) (by decide) rfl rfl dX4_ticks_33 ?_
      refine fr_bipush (pc := 36) O (v := (37 : Int32)) dX4_ticks_36 (by decide) ?_
      have hi_38 := h.1
      have h := h.2
      refine fr_iald (pc := 38) O (sM_1 hG) hi_38 dX4_ticks_38 ?_
      refine fr_nm (fun y2_39 e_y2_39 => ?_)
      have h := h y2_39 e_y2_39
      refine fr_istore_n (pc := 39) O [1, 2, 0] (lv' := [(0, .ref (gad G 0)), (1, .int a1), (2, .int y2_39)]) dX4_ticks_39 rfl (by decide) rfl ?_
      refine fr_iconst (pc := 40) O (v := (0 : Int32)) dX4_ticks_40 (by decide) ?_
      refine fr_istore_n (pc := 41) O [1, 2, 3, 0] (lv' := [(0, .ref (gad G 0)), (1, .int a1), (2, .int y2_39), (3, .int (0 : Int32))]) dX4_ticks_41 rfl (by decide) rfl ?_
      obtain ⟨n9, h⟩ := h
      exact kX4_ticks_L42w hG O  h
    · have h := h.2 c_26
      refine fr_bipush (pc := 29) O (v := (-3 : Int32)) dX4_ticks_29 (by decide) ?_
      exact fr_iret (pc := 31) O dX4_ticks_31 h
  · have h := h.2 c_9
    refine fr_iconst (pc := 12) O (v := (-1 : Int32)) dX4_ticks_12 (by decide) ?_
    exact fr_iret (pc := 13) O dX4_ticks_13 h
theorem tX4_ticks (l : Launch) {G : Gw} (hG : fw_IsM G) {a1 : Int32}  {σ : Mem} {post : Int32 → Mem → Prop} (h : qX4_ticks a1 σ post) : fw_CI l G yX4_ticks cX4_ticks 4 .int 3 75 [.ref (gad G 0), .int a1] σ post := fw_ofI (sok_M hG) (by decide) (Nat.le_of_ble_eq_true rfl) (fun X O => kX4_ticks hG O  h)
def qX4_copies_L2 (a1 : Int32) (a2 : Int32) (post : Mem → Prop) (k2 : Int32 → Mem → Prop) (x3 : Int32) (σ : Mem) : Prop := (((39 : Int32) ≤ x3 → post σ) ∧ (¬ (39 : Int32) ≤ x3 → (vp_in (a1 + x3) 234 ∧ (vp_in (a2 + x3) 234 ∧ (∀ σ23 : Mem, σ23 = up2 σ 1 (a2 + x3).toNatClampNeg (σ 1 (a1 + x3).toNatClampNeg) → (∀ y3_24 : Int32, y3_24 = x3 + (1 : Int32) → k2 y3_24 σ23))))))
set_option maxRecDepth 20000 in
theorem kX4_copies_L2 {X : Cx} {G : Gw} (hG : fw_IsM G) (O : fw_Ok X G cX4_copies 4 RX4 0 0 none) {a1 : Int32} {a2 : Int32} {post : Mem → Prop} {k2 : Int32 → Mem → Prop}  (hk2 : ∀ (x3 : Int32) (σ : Mem), k2 x3 σ → fw_At X G 4 (fw_QV X G post) 2 [(0, .ref (gad G 0)), (1, .int a1), (2, .int a2), (3, .int x3)] [] σ) {x3 : Int32} {σ : Mem} (h : qX4_copies_L2 a1 a2 post k2 x3 σ) : fw_At X G 4 (fw_QV X G post) 2 [(0, .ref (gad G 0)), (1, .int a1), (2, .int a2), (3, .int x3)] [] σ := by
  unfold qX4_copies_L2 at h
  refine fr_iload_n (pc := 2) O 3 dX4_copies_2 rfl rfl ?_
  refine fr_bipush (pc := 3) O (v := (39 : Int32)) dX4_copies_3 (by decide) ?_
  refine fr_icmp_ge (pc := 5) (tgt := 30) O dX4_copies_5 (by decide) (fun c_5 => ?_) (fun c_5 => ?_)
  · have h := h.1 c_5
    exact fr_vret (pc := 30) O dX4_copies_30 h
  · have h := h.2 c_5
    refine fr_aload_n (pc := 8) O 0 dX4_copies_8 rfl rfl ?_
    refine fr_get (pc := 9) (k := 0) (v := .ref (gad G 1)) O cl_X4 m_713 (sM_0 hG) (by decide) rfl rfl dX4_copies_9 ?_
    refine fr_iload_n (pc := 12) O 2 dX4_copies_12 rfl rfl ?_
    refine fr_iload_n (pc := 13) O 3 dX4_copies_13 rfl rfl ?_
    refine fr_iadd (pc := 14) O dX4_copies_14 ?_
    refine fr_aload_n (pc := 15) O 0 dX4_copies_15 rfl rfl ?_
    refine fr_get (pc := 16) (k := 0) (v := .ref (gad G 1)) O cl_X4 m_713 (sM_0 hG) (by decide) rfl rfl dX4_copies_16 ?_
    refine fr_iload_n (pc := 19) O 1 dX4_copies_19 rfl rfl ?_
    refine fr_iload_n (pc := 20) O 3 dX4_copies_20 rfl rfl ?_
    refine fr_iadd (pc := 21) O dX4_copies_21 ?_
    have hi_22 := h.1
    have h := h.2
    refine fr_iald (pc := 22) O (sM_1 hG) hi_22 dX4_copies_22 ?_
    have hi_23 := h.1
    have h := h.2
    refine fr_iast (pc := 23) O (sM_1 hG) hi_23 dX4_copies_23 (fun σ23 e_σ23 => ?_)
    have h := h σ23 e_σ23
    refine fr_iinc (pc := 24) O 3 [1, 2, 3, 0] (w := (1 : Int32)) (lvF := fun y3_24 => [(0, .ref (gad G 0)), (1, .int a1), (2, .int a2), (3, .int y3_24)]) dX4_copies_24 rfl (by decide) (by decide) (fun _ => rfl) (fun y3_24 e_y3_24 => ?_)
    have h := h y3_24 e_y3_24
    refine fr_goto (pc := 27) (tgt := 2) O dX4_copies_27 (by decide) ?_
    exact hk2 _ _ h
set_option maxRecDepth 20000 in
theorem kX4_copies_L2w {X : Cx} {G : Gw} (hG : fw_IsM G) (O : fw_Ok X G cX4_copies 4 RX4 0 0 none) {a1 : Int32} {a2 : Int32} {post : Mem → Prop}   {n9 : Nat} {x3 : Int32} {σ : Mem} (h : it1 (qX4_copies_L2 a1 a2 post) n9 x3 σ) : fw_At X G 4 (fw_QV X G post) 2 [(0, .ref (gad G 0)), (1, .int a1), (2, .int a2), (3, .int x3)] [] σ :=
  it1_walk (T := fun x3 σ => fw_At X G 4 (fw_QV X G post) 2 [(0, .ref (gad G 0)), (1, .int a1), (2, .int a2), (3, .int x3)] [] σ) (fun k2 hk2 x3 σ h => kX4_copies_L2 hG O hk2 h) n9 x3 σ h
def qX4_copies (a1 : Int32) (a2 : Int32) (σ : Mem) (post : Mem → Prop) : Prop := ∃ n9, it1 (qX4_copies_L2 a1 a2 post) n9 (0 : Int32) σ
set_option maxRecDepth 20000 in
theorem kX4_copies {X : Cx} {G : Gw} (hG : fw_IsM G) (O : fw_Ok X G cX4_copies 4 RX4 0 0 none) {a1 : Int32} {a2 : Int32}  {σ : Mem} {post : Mem → Prop} (h : qX4_copies a1 a2 σ post) : fw_At X G 4 (fw_QV X G post) 0 [(0, .ref (gad G 0)), (1, .int a1), (2, .int a2)] [] σ := by
  unfold qX4_copies at h
  refine fr_iconst (pc := 0) O (v := (0 : Int32)) dX4_copies_0 (by decide) ?_
  refine fr_istore_n (pc := 1) O [1, 2, 3, 0] (lv' := [(0, .ref (gad G 0)), (1, .int a1), (2, .int a2), (3, .int (0 : Int32))]) dX4_copies_1 rfl (by decide) rfl ?_
  obtain ⟨n9, h⟩ := h
  exact kX4_copies_L2w hG O  h
theorem tX4_copies (l : Launch) {G : Gw} (hG : fw_IsM G) {a1 : Int32} {a2 : Int32}  {σ : Mem} {post : Mem → Prop} (h : qX4_copies a1 a2 σ post) : fw_CV l G yX4_copies cX4_copies 4 0 0 [.ref (gad G 0), .int a1, .int a2] σ post := fw_ofV (sok_M hG) (by decide) (Nat.le_of_ble_eq_true rfl) (fun X O => kX4_copies hG O  h)
def qX4_ticksGo_L26 (a1 : Int32) (a2 : Int32) (post : Int32 → Mem → Prop) (k26 : Int32 → Mem → Prop) (x3 : Int32) (σ : Mem) : Prop := ((a2 ≤ x3 → (vp_in (193 : Int32) 234 ∧ (vp_in (37 : Int32) 234 ∧ post ((σ 1 (193 : Int32).toNatClampNeg) - (σ 1 (37 : Int32).toNatClampNeg)) σ))) ∧ (¬ a2 ≤ x3 → (qX4_tickOn (156 : Int32) (0 : Int32) σ (fun σ36 => (∀ y3_39 : Int32, y3_39 = x3 + (1 : Int32) → k26 y3_39 σ36)))))
set_option maxRecDepth 20000 in
theorem kX4_ticksGo_L26 {X : Cx} {G : Gw} (hG : fw_IsM G) (O : fw_Ok X G cX4_ticksGo 4 RX4 3 75 (some .int)) {a1 : Int32} {a2 : Int32} {post : Int32 → Mem → Prop} {k26 : Int32 → Mem → Prop}  (hk26 : ∀ (x3 : Int32) (σ : Mem), k26 x3 σ → fw_At X G 4 (fw_QI X G post) 26 [(0, .ref (gad G 0)), (1, .int a1), (2, .int a2), (3, .int x3)] [] σ) {x3 : Int32} {σ : Mem} (h : qX4_ticksGo_L26 a1 a2 post k26 x3 σ) : fw_At X G 4 (fw_QI X G post) 26 [(0, .ref (gad G 0)), (1, .int a1), (2, .int a2), (3, .int x3)] [] σ := by
  unfold qX4_ticksGo_L26 at h
  refine fr_iload_n (pc := 26) O 3 dX4_ticksGo_26 rfl rfl ?_
  refine fr_iload_n (pc := 27) O 2 dX4_ticksGo_27 rfl rfl ?_
  refine fr_icmp_ge (pc := 28) (tgt := 45) O dX4_ticksGo_28 (by decide) (fun c_28 => ?_) (fun c_28 => ?_)
  · have h := h.1 c_28
    refine fr_aload_n (pc := 45) O 0 dX4_ticksGo_45 rfl rfl ?_
    refine fr_get (pc := 46) (k := 0) (v := .ref (gad G 1)) O cl_X4 m_713 (sM_0 hG) (by decide) rfl rfl dX4_ticksGo_46 ?_
    refine fr_sipush (pc := 49) O (v := (193 : Int32)) dX4_ticksGo_49 (by decide) ?_
    have hi_52 := h.1
    have h := h.2
    refine fr_iald (pc := 52) O (sM_1 hG) hi_52 dX4_ticksGo_52 ?_
    refine fr_aload_n (pc := 53) O 0 dX4_ticksGo_53 rfl rfl ?_
    refine fr_get (pc := 54) (k := 0) (v := .ref (gad G 1)) O cl_X4 m_713 (sM_0 hG) (by decide) rfl rfl dX4_ticksGo_54 ?_
    refine fr_bipush (pc := 57) O (v := (37 : Int32)) dX4_ticksGo_57 (by decide) ?_
    have hi_59 := h.1
    have h := h.2
    refine fr_iald (pc := 59) O (sM_1 hG) hi_59 dX4_ticksGo_59 ?_
    refine fr_isub (pc := 60) O dX4_ticksGo_60 ?_
    exact fr_iret (pc := 61) O dX4_ticksGo_61 h
  · have h := h.2 c_28
    refine fr_aload_n (pc := 31) O 0 dX4_ticksGo_31 rfl rfl ?_
    refine fr_sipush (pc := 32) O (v := (156 : Int32)) dX4_ticksGo_32 (by decide) ?_
    refine fr_iconst (pc := 35) O (v := (0 : Int32)) dX4_ticksGo_35 (by decide) ?_
    refine fr_callVV (pc := 36) (st := []) O (tX4_tickOn X.2.1 hG  h) mt_X4_tickOn mv_X4_tickOn m_928 cl_X4 rfl (sM_0 hG) rfl (by decide) rfl (Nat.le_of_ble_eq_true rfl) dX4_ticksGo_36 (fun σ36 h => ?_)
    refine fr_iinc (pc := 39) O 3 [1, 2, 3, 0] (w := (1 : Int32)) (lvF := fun y3_39 => [(0, .ref (gad G 0)), (1, .int a1), (2, .int a2), (3, .int y3_39)]) dX4_ticksGo_39 rfl (by decide) (by decide) (fun _ => rfl) (fun y3_39 e_y3_39 => ?_)
    have h := h y3_39 e_y3_39
    refine fr_goto (pc := 42) (tgt := 26) O dX4_ticksGo_42 (by decide) ?_
    exact hk26 _ _ h
set_option maxRecDepth 20000 in
theorem kX4_ticksGo_L26w {X : Cx} {G : Gw} (hG : fw_IsM G) (O : fw_Ok X G cX4_ticksGo 4 RX4 3 75 (some .int)) {a1 : Int32} {a2 : Int32} {post : Int32 → Mem → Prop}   {n9 : Nat} {x3 : Int32} {σ : Mem} (h : it1 (qX4_ticksGo_L26 a1 a2 post) n9 x3 σ) : fw_At X G 4 (fw_QI X G post) 26 [(0, .ref (gad G 0)), (1, .int a1), (2, .int a2), (3, .int x3)] [] σ :=
  it1_walk (T := fun x3 σ => fw_At X G 4 (fw_QI X G post) 26 [(0, .ref (gad G 0)), (1, .int a1), (2, .int a2), (3, .int x3)] [] σ) (fun k26 hk26 x3 σ h => kX4_ticksGo_L26 hG O hk26 h) n9 x3 σ h
def qX4_ticksGo (a1 : Int32) (a2 : Int32) (σ : Mem) (post : Int32 → Mem → Prop) : Prop := (qX4_copies a1 (156 : Int32) σ (fun σ5 => (∀ σ10 : Mem, σ10 = up2 σ5 0 16 (0 : Int32) → (qX4_speedOn (156 : Int32) σ10 (fun r18 σ18 => (∀ σ21 : Mem, σ21 = up2 σ18 0 17 r18 → ∃ n9, it1 (qX4_ticksGo_L26 a1 a2 post) n9 (0 : Int32) σ21))))))
set_option maxRecDepth 20000 in
theorem kX4_ticksGo {X : Cx} {G : Gw} (hG : fw_IsM G) (O : fw_Ok X G cX4_ticksGo 4 RX4 3 75 (some .int)) {a1 : Int32} {a2 : Int32}  {σ : Mem} {post : Int32 → Mem → Prop} (h : qX4_ticksGo a1 a2 σ post) : fw_At X G 4 (fw_QI X G post) 0 [(0, .ref (gad G 0)), (1, .int a1), (2, .int a2)] [] σ := by
  unfold qX4_ticksGo at h
  refine fr_aload_n (pc := 0) O 0 dX4_ticksGo_0 rfl rfl ?_
  refine fr_iload_n (pc := 1) O 1 dX4_ticksGo_1 rfl rfl ?_
  refine fr_sipush (pc := 2) O (v := (156 : Int32)) dX4_ticksGo_2 (by decide) ?_
  refine fr_callVV (pc := 5) (st := []) O (tX4_copies X.2.1 hG  h) mt_X4_copies mv_X4_copies m_949 cl_X4 rfl (sM_0 hG) rfl (by decide) rfl (Nat.le_of_ble_eq_true rfl) dX4_ticksGo_5 (fun σ5 h => ?_)
  refine fr_aload_n (pc := 8) O 0 dX4_ticksGo_8 rfl rfl ?_
  refine fr_iconst (pc := 9) O (v := (0 : Int32)) dX4_ticksGo_9 (by decide) ?_
  refine fr_put (pc := 10) (k := 16) O cl_X4 m_729 (sM_0 hG) (by decide) rfl rfl rfl rfl (fun _ => Nat.le_of_ble_eq_true rfl) (fun _ => rfl) dX4_ticksGo_10 (fun σ10 e_σ10 => ?_)
  have h := h σ10 e_σ10
  refine fr_aload_n (pc := 13) O 0 dX4_ticksGo_13 rfl rfl ?_
  refine fr_aload_n (pc := 14) O 0 dX4_ticksGo_14 rfl rfl ?_
  refine fr_sipush (pc := 15) O (v := (156 : Int32)) dX4_ticksGo_15 (by decide) ?_
  refine fr_callVI (pc := 18) (st := [.ref (gad G 0)]) O (tX4_speedOn X.2.1 hG  h) mt_X4_speedOn mv_X4_speedOn m_849 cl_X4 rfl (sM_0 hG) rfl (by decide) rfl (Nat.le_of_ble_eq_true rfl) dX4_ticksGo_18 (fun r18 σ18 h => ?_)
  refine fr_put (pc := 21) (k := 17) O cl_X4 m_730 (sM_0 hG) (by decide) rfl rfl rfl rfl (fun _ => Nat.le_of_ble_eq_true rfl) (fun _ => rfl) dX4_ticksGo_21 (fun σ21 e_σ21 => ?_)
  have h := h σ21 e_σ21
  refine fr_iconst (pc := 24) O (v := (0 : Int32)) dX4_ticksGo_24 (by decide) ?_
  refine fr_istore_n (pc := 25) O [1, 2, 3, 0] (lv' := [(0, .ref (gad G 0)), (1, .int a1), (2, .int a2), (3, .int (0 : Int32))]) dX4_ticksGo_25 rfl (by decide) rfl ?_
  obtain ⟨n9, h⟩ := h
  exact kX4_ticksGo_L26w hG O  h
theorem tX4_ticksGo (l : Launch) {G : Gw} (hG : fw_IsM G) {a1 : Int32} {a2 : Int32}  {σ : Mem} {post : Int32 → Mem → Prop} (h : qX4_ticksGo a1 a2 σ post) : fw_CI l G yX4_ticksGo cX4_ticksGo 4 .int 3 75 [.ref (gad G 0), .int a1, .int a2] σ post := fw_ofI (sok_M hG) (by decide) (Nat.le_of_ble_eq_true rfl) (fun X O => kX4_ticksGo hG O  h)
def qX4_lackThen  (σ : Mem) (post : Int32 → Mem → Prop) : Prop := (vp_in (194 : Int32) 234 ∧ (vp_in (38 : Int32) 234 ∧ post ((σ 1 (194 : Int32).toNatClampNeg) - (σ 1 (38 : Int32).toNatClampNeg)) σ))
set_option maxRecDepth 20000 in
theorem kX4_lackThen {X : Cx} {G : Gw} (hG : fw_IsM G) (O : fw_Ok X G cX4_lackThen 1 RX4 0 0 (some .int))   {σ : Mem} {post : Int32 → Mem → Prop} (h : qX4_lackThen  σ post) : fw_At X G 1 (fw_QI X G post) 0 [(0, .ref (gad G 0))] [] σ := by
  unfold qX4_lackThen at h
  refine fr_aload_n (pc := 0) O 0 dX4_lackThen_0 rfl rfl ?_
  refine fr_get (pc := 1) (k := 0) (v := .ref (gad G 1)) O cl_X4 m_713 (sM_0 hG) (by decide) rfl rfl dX4_lackThen_1 ?_
  refine fr_sipush (pc := 4) O (v := (194 : Int32)) dX4_lackThen_4 (by decide) ?_
  have hi_7 := h.1
  have h := h.2
  refine fr_iald (pc := 7) O (sM_1 hG) hi_7 dX4_lackThen_7 ?_
  refine fr_aload_n (pc := 8) O 0 dX4_lackThen_8 rfl rfl ?_
  refine fr_get (pc := 9) (k := 0) (v := .ref (gad G 1)) O cl_X4 m_713 (sM_0 hG) (by decide) rfl rfl dX4_lackThen_9 ?_
  refine fr_bipush (pc := 12) O (v := (38 : Int32)) dX4_lackThen_12 (by decide) ?_
  have hi_14 := h.1
  have h := h.2
  refine fr_iald (pc := 14) O (sM_1 hG) hi_14 dX4_lackThen_14 ?_
  refine fr_isub (pc := 15) O dX4_lackThen_15 ?_
  exact fr_iret (pc := 16) O dX4_lackThen_16 h
theorem tX4_lackThen (l : Launch) {G : Gw} (hG : fw_IsM G)   {σ : Mem} {post : Int32 → Mem → Prop} (h : qX4_lackThen  σ post) : fw_CI l G yX4_lackThen cX4_lackThen 1 .int 0 0 [.ref (gad G 0)] σ post := fw_ofI (sok_M hG) (by decide) (Nat.le_of_ble_eq_true rfl) (fun X O => kX4_lackThen hG O  h)
def qX4_runs_B19 (a1 : Int32) (a2 : Int32) (post : Int32 → Mem → Prop) (σ : Mem) : Prop := post (-1 : Int32) σ
set_option maxRecDepth 20000 in
theorem kX4_runs_B19 {X : Cx} {G : Gw} (hG : fw_IsM G) (O : fw_Ok X G cX4_runs 4 RX4 4 98 (some .int)) {a1 : Int32} {a2 : Int32} {post : Int32 → Mem → Prop}    {σ : Mem} (h : qX4_runs_B19 a1 a2 post σ) : fw_At X G 4 (fw_QI X G post) 19 [(0, .ref (gad G 0)), (1, .int a1), (2, .int a2)] [] σ := by
  unfold qX4_runs_B19 at h
  refine fr_iconst (pc := 19) O (v := (-1 : Int32)) dX4_runs_19 (by decide) ?_
  exact fr_iret (pc := 20) O dX4_runs_20 h
def qX4_runs (a1 : Int32) (a2 : Int32) (σ : Mem) (post : Int32 → Mem → Prop) : Prop := (qX4_isLong a1 σ (fun r1 σ1 => ((r1 = 0 → qX4_runs_B19 a1 a2 post σ1) ∧ (¬ r1 = 0 → (qX4_in a2.toInt64 (0 : Int64) (4 : Int64) σ1 (fun r13 σ13 => ((¬ r13 = 0 → (qX4_ticksGo (0 : Int32) a1 σ13 (fun r24 σ24 => ((a2 = (0 : Int32) → post r24 σ24) ∧ (¬ a2 = (0 : Int32) → ((a2 = (1 : Int32) → (qX4_lackThen σ24 (fun r63 σ63 => post r63 σ63))) ∧ (¬ a2 = (1 : Int32) → ((a2 = (2 : Int32) → post (σ24 0 16) σ24) ∧ (¬ a2 = (2 : Int32) → ((a2 = (3 : Int32) → (qX4_swingOn (156 : Int32) σ24 (fun r76 σ76 => post r76 σ76))) ∧ (¬ a2 = (3 : Int32) → post (σ24 0 17) σ24))))))))))) ∧ (r13 = 0 → qX4_runs_B19 a1 a2 post σ13))))))))
set_option maxRecDepth 20000 in
theorem kX4_runs {X : Cx} {G : Gw} (hG : fw_IsM G) (O : fw_Ok X G cX4_runs 4 RX4 4 98 (some .int)) {a1 : Int32} {a2 : Int32}  {σ : Mem} {post : Int32 → Mem → Prop} (h : qX4_runs a1 a2 σ post) : fw_At X G 4 (fw_QI X G post) 0 [(0, .ref (gad G 0)), (1, .int a1), (2, .int a2)] [] σ := by
  unfold qX4_runs at h
  refine fr_iload_n (pc := 0) O 1 dX4_runs_0 rfl rfl ?_
  refine fr_callSI (pc := 1) (st := []) O (tX4_isLong X.2.1 hG  h) mt_X4_isLong m_941 m_940 rfl (by decide) rfl (Nat.le_of_ble_eq_true rfl) dX4_runs_1 (fun r1 σ1 h => ?_)
  refine fr_if_eq (pc := 4) (tgt := 19) O dX4_runs_4 (by decide) (fun c_4 => ?_) (fun c_4 => ?_)
  · have h := h.1 c_4
    exact kX4_runs_B19 hG O  h
  · have h := h.2 c_4
    refine fr_iload_n (pc := 7) O 2 dX4_runs_7 rfl rfl ?_
    refine fr_i2l (pc := 8) O dX4_runs_8 ?_
    refine fr_lconst (pc := 9) O (v := (0 : Int64)) dX4_runs_9 (by decide) ?_
    refine fr_ldc2 (pc := 10) O m_944 dX4_runs_10 ?_
    refine fr_callSI (pc := 13) (st := []) O (tX4_in X.2.1 hG  h) mt_X4_in m_798 m_797 rfl (by decide) rfl (Nat.le_of_ble_eq_true rfl) dX4_runs_13 (fun r13 σ13 h => ?_)
    refine fr_if_ne (pc := 16) (tgt := 21) O dX4_runs_16 (by decide) (fun c_16 => ?_) (fun c_16 => ?_)
    · have h := h.1 c_16
      refine fr_aload_n (pc := 21) O 0 dX4_runs_21 rfl rfl ?_
      refine fr_iconst (pc := 22) O (v := (0 : Int32)) dX4_runs_22 (by decide) ?_
      refine fr_iload_n (pc := 23) O 1 dX4_runs_23 rfl rfl ?_
      refine fr_callVI (pc := 24) (st := []) O (tX4_ticksGo X.2.1 hG  h) mt_X4_ticksGo mv_X4_ticksGo m_945 cl_X4 rfl (sM_0 hG) rfl (by decide) rfl (Nat.le_of_ble_eq_true rfl) dX4_runs_24 (fun r24 σ24 h => ?_)
      refine fr_istore_n (pc := 27) O [1, 2, 3, 0] (lv' := [(0, .ref (gad G 0)), (1, .int a1), (2, .int a2), (3, .int r24)]) dX4_runs_27 rfl (by decide) rfl ?_
      refine fr_iload_n (pc := 28) O 2 dX4_runs_28 rfl rfl ?_
      by_cases e29_0 : a2 = (0 : Int32)
      · refine fr_tabIn (pc := 29) (tgt := 60) (off := 31) O dX4_runs_29 (by rw [e29_0]; decide) ?_
        have h := h.1 e29_0
        refine fr_iload_n (pc := 60) O 3 dX4_runs_60 rfl rfl ?_
        exact fr_iret (pc := 61) O dX4_runs_61 h
      · have h := h.2 e29_0
        by_cases e29_1 : a2 = (1 : Int32)
        · refine fr_tabIn (pc := 29) (tgt := 62) (off := 33) O dX4_runs_29 (by rw [e29_1]; decide) ?_
          have h := h.1 e29_1
          refine fr_aload_n (pc := 62) O 0 dX4_runs_62 rfl rfl ?_
          refine fr_callVI (pc := 63) (st := []) O (tX4_lackThen X.2.1 hG  h) mt_X4_lackThen mv_X4_lackThen m_953 cl_X4 rfl (sM_0 hG) rfl (by decide) rfl (Nat.le_of_ble_eq_true rfl) dX4_runs_63 (fun r63 σ63 h => ?_)
          exact fr_iret (pc := 66) O dX4_runs_66 h
        · have h := h.2 e29_1
          by_cases e29_2 : a2 = (2 : Int32)
          · refine fr_tabIn (pc := 29) (tgt := 67) (off := 38) O dX4_runs_29 (by rw [e29_2]; decide) ?_
            have h := h.1 e29_2
            refine fr_aload_n (pc := 67) O 0 dX4_runs_67 rfl rfl ?_
            refine fr_get (pc := 68) (k := 16) (v := .int (σ24 0 16)) O cl_X4 m_729 (sM_0 hG) (by decide) rfl rfl dX4_runs_68 ?_
            exact fr_iret (pc := 71) O dX4_runs_71 h
          · have h := h.2 e29_2
            by_cases e29_3 : a2 = (3 : Int32)
            · refine fr_tabIn (pc := 29) (tgt := 72) (off := 43) O dX4_runs_29 (by rw [e29_3]; decide) ?_
              have h := h.1 e29_3
              refine fr_aload_n (pc := 72) O 0 dX4_runs_72 rfl rfl ?_
              refine fr_sipush (pc := 73) O (v := (156 : Int32)) dX4_runs_73 (by decide) ?_
              refine fr_callVI (pc := 76) (st := []) O (tX4_swingOn X.2.1 hG  h) mt_X4_swingOn mv_X4_swingOn m_957 cl_X4 rfl (sM_0 hG) rfl (by decide) rfl (Nat.le_of_ble_eq_true rfl) dX4_runs_76 (fun r76 σ76 h => ?_)
              exact fr_iret (pc := 79) O dX4_runs_79 h
            · have h := h.2 e29_3
              have n0 := lv_neT e29_0 (show ((0 : Int32)).toInt = 0 by decide)
              have n1 := lv_neT e29_1 (show ((1 : Int32)).toInt = 1 by decide)
              have n2 := lv_neT e29_2 (show ((2 : Int32)).toInt = 2 by decide)
              have n3 := lv_neT e29_3 (show ((3 : Int32)).toInt = 3 by decide)
              refine fr_tabOut (pc := 29) (tgt := 80) O dX4_runs_29 (by omega) (by decide) ?_
              refine fr_aload_n (pc := 80) O 0 dX4_runs_80 rfl rfl ?_
              refine fr_get (pc := 81) (k := 17) (v := .int (σ24 0 17)) O cl_X4 m_730 (sM_0 hG) (by decide) rfl rfl dX4_runs_81 ?_
              exact fr_iret (pc := 84) O dX4_runs_84 h
    · have h := h.2 c_16
      exact kX4_runs_B19 hG O  h
theorem tX4_runs (l : Launch) {G : Gw} (hG : fw_IsM G) {a1 : Int32} {a2 : Int32}  {σ : Mem} {post : Int32 → Mem → Prop} (h : qX4_runs a1 a2 σ post) : fw_CI l G yX4_runs cX4_runs 4 .int 4 98 [.ref (gad G 0), .int a1, .int a2] σ post := fw_ofI (sok_M hG) (by decide) (Nat.le_of_ble_eq_true rfl) (fun X O => kX4_runs hG O  h)
def qX4_ahead_B15 (a1 : Int32) (a2 : Int32) (post : Int32 → Mem → Prop) (σ : Mem) : Prop := post (-1 : Int32) σ
set_option maxRecDepth 20000 in
theorem kX4_ahead_B15 {X : Cx} {G : Gw} (hG : fw_IsM G) (O : fw_Ok X G cX4_ahead 3 RX4 4 98 (some .int)) {a1 : Int32} {a2 : Int32} {post : Int32 → Mem → Prop}    {σ : Mem} (h : qX4_ahead_B15 a1 a2 post σ) : fw_At X G 3 (fw_QI X G post) 15 [(0, .ref (gad G 0)), (1, .int a1), (2, .int a2)] [] σ := by
  unfold qX4_ahead_B15 at h
  refine fr_iconst (pc := 15) O (v := (-1 : Int32)) dX4_ahead_15 (by decide) ?_
  exact fr_iret (pc := 16) O dX4_ahead_16 h
def qX4_ahead (a1 : Int32) (a2 : Int32) (σ : Mem) (post : Int32 → Mem → Prop) : Prop := (qX4_isWheel a1 σ (fun r2 σ2 => ((r2 = 0 → qX4_ahead_B15 a1 a2 post σ2) ∧ (¬ r2 = 0 → (qX4_isLong a2 σ2 (fun r9 σ9 => ((¬ r9 = 0 → (qX4_ticksGo (0 : Int32) a2 σ9 (fun r20 σ20 => (vp_in ((168 : Int32) + a1) 234 ∧ post (σ20 1 ((168 : Int32) + a1).toNatClampNeg) σ20)))) ∧ (r9 = 0 → qX4_ahead_B15 a1 a2 post σ9))))))))
set_option maxRecDepth 20000 in
theorem kX4_ahead {X : Cx} {G : Gw} (hG : fw_IsM G) (O : fw_Ok X G cX4_ahead 3 RX4 4 98 (some .int)) {a1 : Int32} {a2 : Int32}  {σ : Mem} {post : Int32 → Mem → Prop} (h : qX4_ahead a1 a2 σ post) : fw_At X G 3 (fw_QI X G post) 0 [(0, .ref (gad G 0)), (1, .int a1), (2, .int a2)] [] σ := by
  unfold qX4_ahead at h
  refine fr_aload_n (pc := 0) O 0 dX4_ahead_0 rfl rfl ?_
  refine fr_iload_n (pc := 1) O 1 dX4_ahead_1 rfl rfl ?_
  refine fr_callVI (pc := 2) (st := []) O (tX4_isWheel X.2.1 hG  h) mt_X4_isWheel mv_X4_isWheel m_857 cl_X4 rfl (sM_0 hG) rfl (by decide) rfl (Nat.le_of_ble_eq_true rfl) dX4_ahead_2 (fun r2 σ2 h => ?_)
  refine fr_if_eq (pc := 5) (tgt := 15) O dX4_ahead_5 (by decide) (fun c_5 => ?_) (fun c_5 => ?_)
  · have h := h.1 c_5
    exact kX4_ahead_B15 hG O  h
  · have h := h.2 c_5
    refine fr_iload_n (pc := 8) O 2 dX4_ahead_8 rfl rfl ?_
    refine fr_callSI (pc := 9) (st := []) O (tX4_isLong X.2.1 hG  h) mt_X4_isLong m_941 m_940 rfl (by decide) rfl (Nat.le_of_ble_eq_true rfl) dX4_ahead_9 (fun r9 σ9 h => ?_)
    refine fr_if_ne (pc := 12) (tgt := 17) O dX4_ahead_12 (by decide) (fun c_12 => ?_) (fun c_12 => ?_)
    · have h := h.1 c_12
      refine fr_aload_n (pc := 17) O 0 dX4_ahead_17 rfl rfl ?_
      refine fr_iconst (pc := 18) O (v := (0 : Int32)) dX4_ahead_18 (by decide) ?_
      refine fr_iload_n (pc := 19) O 2 dX4_ahead_19 rfl rfl ?_
      refine fr_callVI (pc := 20) (st := []) O (tX4_ticksGo X.2.1 hG  h) mt_X4_ticksGo mv_X4_ticksGo m_945 cl_X4 rfl (sM_0 hG) rfl (by decide) rfl (Nat.le_of_ble_eq_true rfl) dX4_ahead_20 (fun r20 σ20 h => ?_)
      refine fr_pop (pc := 23) O dX4_ahead_23 rfl ?_
      refine fr_aload_n (pc := 24) O 0 dX4_ahead_24 rfl rfl ?_
      refine fr_get (pc := 25) (k := 0) (v := .ref (gad G 1)) O cl_X4 m_713 (sM_0 hG) (by decide) rfl rfl dX4_ahead_25 ?_
      refine fr_sipush (pc := 28) O (v := (168 : Int32)) dX4_ahead_28 (by decide) ?_
      refine fr_iload_n (pc := 31) O 1 dX4_ahead_31 rfl rfl ?_
      refine fr_iadd (pc := 32) O dX4_ahead_32 ?_
      have hi_33 := h.1
      have h := h.2
      refine fr_iald (pc := 33) O (sM_1 hG) hi_33 dX4_ahead_33 ?_
      exact fr_iret (pc := 34) O dX4_ahead_34 h
    · have h := h.2 c_12
      exact kX4_ahead_B15 hG O  h
theorem tX4_ahead (l : Launch) {G : Gw} (hG : fw_IsM G) {a1 : Int32} {a2 : Int32}  {σ : Mem} {post : Int32 → Mem → Prop} (h : qX4_ahead a1 a2 σ post) : fw_CI l G yX4_ahead cX4_ahead 3 .int 4 98 [.ref (gad G 0), .int a1, .int a2] σ post := fw_ofI (sok_M hG) (by decide) (Nat.le_of_ble_eq_true rfl) (fun X O => kX4_ahead hG O  h)
def qX4_when_L20 (a1 : Int32) (post : Int32 → Mem → Prop) (k20 : Int32 → Mem → Prop) (x2 : Int32) (σ : Mem) : Prop := (((200 : Int32) < x2 → post (-4 : Int32) σ) ∧ (¬ (200 : Int32) < x2 → (vp_in ((168 : Int32) + a1) 234 ∧ ((¬ (σ 1 ((168 : Int32) + a1).toNatClampNeg) = 0 → (qX4_tickOn (156 : Int32) (0 : Int32) σ (fun σ47 => (∀ y2_50 : Int32, y2_50 = x2 + (1 : Int32) → k20 y2_50 σ47)))) ∧ ((σ 1 ((168 : Int32) + a1).toNatClampNeg) = 0 → post x2 σ)))))
set_option maxRecDepth 20000 in
theorem kX4_when_L20 {X : Cx} {G : Gw} (hG : fw_IsM G) (O : fw_Ok X G cX4_when 3 RX4 3 75 (some .int)) {a1 : Int32} {post : Int32 → Mem → Prop} {k20 : Int32 → Mem → Prop}  (hk20 : ∀ (x2 : Int32) (σ : Mem), k20 x2 σ → fw_At X G 3 (fw_QI X G post) 20 [(0, .ref (gad G 0)), (1, .int a1), (2, .int x2)] [] σ) {x2 : Int32} {σ : Mem} (h : qX4_when_L20 a1 post k20 x2 σ) : fw_At X G 3 (fw_QI X G post) 20 [(0, .ref (gad G 0)), (1, .int a1), (2, .int x2)] [] σ := by
  unfold qX4_when_L20 at h
  refine fr_iload_n (pc := 20) O 2 dX4_when_20 rfl rfl ?_
  refine fr_sipush (pc := 21) O (v := (200 : Int32)) dX4_when_21 (by decide) ?_
  refine fr_icmp_gt (pc := 24) (tgt := 56) O dX4_when_24 (by decide) (fun c_24 => ?_) (fun c_24 => ?_)
  · have h := h.1 c_24
    refine fr_bipush (pc := 56) O (v := (-4 : Int32)) dX4_when_56 (by decide) ?_
    exact fr_iret (pc := 58) O dX4_when_58 h
  · have h := h.2 c_24
    refine fr_aload_n (pc := 27) O 0 dX4_when_27 rfl rfl ?_
    refine fr_get (pc := 28) (k := 0) (v := .ref (gad G 1)) O cl_X4 m_713 (sM_0 hG) (by decide) rfl rfl dX4_when_28 ?_
    refine fr_sipush (pc := 31) O (v := (168 : Int32)) dX4_when_31 (by decide) ?_
    refine fr_iload_n (pc := 34) O 1 dX4_when_34 rfl rfl ?_
    refine fr_iadd (pc := 35) O dX4_when_35 ?_
    have hi_36 := h.1
    have h := h.2
    refine fr_iald (pc := 36) O (sM_1 hG) hi_36 dX4_when_36 ?_
    refine fr_if_ne (pc := 37) (tgt := 42) O dX4_when_37 (by decide) (fun c_37 => ?_) (fun c_37 => ?_)
    · have h := h.1 c_37
      refine fr_aload_n (pc := 42) O 0 dX4_when_42 rfl rfl ?_
      refine fr_sipush (pc := 43) O (v := (156 : Int32)) dX4_when_43 (by decide) ?_
      refine fr_iconst (pc := 46) O (v := (0 : Int32)) dX4_when_46 (by decide) ?_
      refine fr_callVV (pc := 47) (st := []) O (tX4_tickOn X.2.1 hG  h) mt_X4_tickOn mv_X4_tickOn m_928 cl_X4 rfl (sM_0 hG) rfl (by decide) rfl (Nat.le_of_ble_eq_true rfl) dX4_when_47 (fun σ47 h => ?_)
      refine fr_iinc (pc := 50) O 2 [1, 2, 0] (w := (1 : Int32)) (lvF := fun y2_50 => [(0, .ref (gad G 0)), (1, .int a1), (2, .int y2_50)]) dX4_when_50 rfl (by decide) (by decide) (fun _ => rfl) (fun y2_50 e_y2_50 => ?_)
      have h := h y2_50 e_y2_50
      refine fr_goto (pc := 53) (tgt := 20) O dX4_when_53 (by decide) ?_
      exact hk20 _ _ h
    · have h := h.2 c_37
      refine fr_iload_n (pc := 40) O 2 dX4_when_40 rfl rfl ?_
      exact fr_iret (pc := 41) O dX4_when_41 h
set_option maxRecDepth 20000 in
theorem kX4_when_L20w {X : Cx} {G : Gw} (hG : fw_IsM G) (O : fw_Ok X G cX4_when 3 RX4 3 75 (some .int)) {a1 : Int32} {post : Int32 → Mem → Prop}   {n9 : Nat} {x2 : Int32} {σ : Mem} (h : it1 (qX4_when_L20 a1 post) n9 x2 σ) : fw_At X G 3 (fw_QI X G post) 20 [(0, .ref (gad G 0)), (1, .int a1), (2, .int x2)] [] σ :=
  it1_walk (T := fun x2 σ => fw_At X G 3 (fw_QI X G post) 20 [(0, .ref (gad G 0)), (1, .int a1), (2, .int x2)] [] σ) (fun k20 hk20 x2 σ h => kX4_when_L20 hG O hk20 h) n9 x2 σ h
def qX4_when (a1 : Int32) (σ : Mem) (post : Int32 → Mem → Prop) : Prop := (qX4_isWheel a1 σ (fun r2 σ2 => ((¬ r2 = 0 → (qX4_copies (0 : Int32) (156 : Int32) σ2 (fun σ15 => ∃ n9, it1 (qX4_when_L20 a1 post) n9 (0 : Int32) σ15))) ∧ (r2 = 0 → post (-1 : Int32) σ2))))
set_option maxRecDepth 20000 in
theorem kX4_when {X : Cx} {G : Gw} (hG : fw_IsM G) (O : fw_Ok X G cX4_when 3 RX4 3 75 (some .int)) {a1 : Int32}  {σ : Mem} {post : Int32 → Mem → Prop} (h : qX4_when a1 σ post) : fw_At X G 3 (fw_QI X G post) 0 [(0, .ref (gad G 0)), (1, .int a1)] [] σ := by
  unfold qX4_when at h
  refine fr_aload_n (pc := 0) O 0 dX4_when_0 rfl rfl ?_
  refine fr_iload_n (pc := 1) O 1 dX4_when_1 rfl rfl ?_
  refine fr_callVI (pc := 2) (st := []) O (tX4_isWheel X.2.1 hG  h) mt_X4_isWheel mv_X4_isWheel m_857 cl_X4 rfl (sM_0 hG) rfl (by decide) rfl (Nat.le_of_ble_eq_true rfl) dX4_when_2 (fun r2 σ2 h => ?_)
  refine fr_if_ne (pc := 5) (tgt := 10) O dX4_when_5 (by decide) (fun c_5 => ?_) (fun c_5 => ?_)
  · have h := h.1 c_5
    refine fr_aload_n (pc := 10) O 0 dX4_when_10 rfl rfl ?_
    refine fr_iconst (pc := 11) O (v := (0 : Int32)) dX4_when_11 (by decide) ?_
    refine fr_sipush (pc := 12) O (v := (156 : Int32)) dX4_when_12 (by decide) ?_
    refine fr_callVV (pc := 15) (st := []) O (tX4_copies X.2.1 hG  h) mt_X4_copies mv_X4_copies m_949 cl_X4 rfl (sM_0 hG) rfl (by decide) rfl (Nat.le_of_ble_eq_true rfl) dX4_when_15 (fun σ15 h => ?_)
    refine fr_iconst (pc := 18) O (v := (0 : Int32)) dX4_when_18 (by decide) ?_
    refine fr_istore_n (pc := 19) O [1, 2, 0] (lv' := [(0, .ref (gad G 0)), (1, .int a1), (2, .int (0 : Int32))]) dX4_when_19 rfl (by decide) rfl ?_
    obtain ⟨n9, h⟩ := h
    exact kX4_when_L20w hG O  h
  · have h := h.2 c_5
    refine fr_iconst (pc := 8) O (v := (-1 : Int32)) dX4_when_8 (by decide) ?_
    exact fr_iret (pc := 9) O dX4_when_9 h
theorem tX4_when (l : Launch) {G : Gw} (hG : fw_IsM G) {a1 : Int32}  {σ : Mem} {post : Int32 → Mem → Prop} (h : qX4_when a1 σ post) : fw_CI l G yX4_when cX4_when 3 .int 3 75 [.ref (gad G 0), .int a1] σ post := fw_ofI (sok_M hG) (by decide) (Nat.le_of_ble_eq_true rfl) (fun X O => kX4_when hG O  h)
def qX4_again_B115 (post : Int32 → Mem → Prop) (k18 : Int32 → Int32 → Mem → Prop) (k70 : Int32 → Int32 → Int32 → Int32 → Mem → Prop) (x1 : Int32) (x2 : Int32) (x4 : Int32) (s0 : Int32) (σ : Mem) : Prop := (∀ y4_116 : Int32, y4_116 = x4 + (1 : Int32) → k70 x1 x2 s0 y4_116 σ)
set_option maxRecDepth 20000 in
theorem kX4_again_B115 {X : Cx} {G : Gw} (hG : fw_IsM G) (O : fw_Ok X G cX4_again 5 RX4 3 75 (some .int))  {post : Int32 → Mem → Prop} {k18 : Int32 → Int32 → Mem → Prop} {k70 : Int32 → Int32 → Int32 → Int32 → Mem → Prop}  (hk18 : ∀ (x1 : Int32) (x2 : Int32) (σ : Mem), k18 x1 x2 σ → fw_At X G 5 (fw_QI X G post) 18 [(0, .ref (gad G 0)), (1, .int x1), (2, .int x2)] [] σ) (hk70 : ∀ (x1 : Int32) (x2 : Int32) (x3 : Int32) (x4 : Int32) (σ : Mem), k70 x1 x2 x3 x4 σ → fw_At X G 5 (fw_QI X G post) 70 [(0, .ref (gad G 0)), (1, .int x1), (2, .int x2), (3, .int x3), (4, .int x4)] [] σ) {x1 : Int32} {x2 : Int32} {x4 : Int32} {s0 : Int32} {σ : Mem} (h : qX4_again_B115 post k18 k70 x1 x2 x4 s0 σ) : fw_At X G 5 (fw_QI X G post) 115 [(0, .ref (gad G 0)), (1, .int x1), (2, .int x2), (4, .int x4)] [.int s0] σ := by
  unfold qX4_again_B115 at h
  refine fr_istore_n (pc := 115) O [1, 2, 3, 0, 4] (lv' := [(0, .ref (gad G 0)), (1, .int x1), (2, .int x2), (3, .int s0), (4, .int x4)]) dX4_again_115 rfl (by decide) rfl ?_
  refine fr_iinc (pc := 116) O 4 [1, 2, 3, 4, 0] (w := (1 : Int32)) (lvF := fun y4_116 => [(0, .ref (gad G 0)), (1, .int x1), (2, .int x2), (3, .int s0), (4, .int y4_116)]) dX4_again_116 rfl (by decide) (by decide) (fun _ => rfl) (fun y4_116 e_y4_116 => ?_)
  have h := h y4_116 e_y4_116
  refine fr_goto (pc := 119) (tgt := 70) O dX4_again_119 (by decide) ?_
  exact hk70 _ _ _ _ _ h
def qX4_again_B114 (post : Int32 → Mem → Prop) (k18 : Int32 → Int32 → Mem → Prop) (k70 : Int32 → Int32 → Int32 → Int32 → Mem → Prop) (x1 : Int32) (x2 : Int32) (x4 : Int32) (σ : Mem) : Prop := qX4_again_B115 post k18 k70 x1 x2 x4 (0 : Int32) σ
set_option maxRecDepth 20000 in
theorem kX4_again_B114 {X : Cx} {G : Gw} (hG : fw_IsM G) (O : fw_Ok X G cX4_again 5 RX4 3 75 (some .int))  {post : Int32 → Mem → Prop} {k18 : Int32 → Int32 → Mem → Prop} {k70 : Int32 → Int32 → Int32 → Int32 → Mem → Prop}  (hk18 : ∀ (x1 : Int32) (x2 : Int32) (σ : Mem), k18 x1 x2 σ → fw_At X G 5 (fw_QI X G post) 18 [(0, .ref (gad G 0)), (1, .int x1), (2, .int x2)] [] σ) (hk70 : ∀ (x1 : Int32) (x2 : Int32) (x3 : Int32) (x4 : Int32) (σ : Mem), k70 x1 x2 x3 x4 σ → fw_At X G 5 (fw_QI X G post) 70 [(0, .ref (gad G 0)), (1, .int x1), (2, .int x2), (3, .int x3), (4, .int x4)] [] σ) {x1 : Int32} {x2 : Int32} {x4 : Int32} {σ : Mem} (h : qX4_again_B114 post k18 k70 x1 x2 x4 σ) : fw_At X G 5 (fw_QI X G post) 114 [(0, .ref (gad G 0)), (1, .int x1), (2, .int x2), (4, .int x4)] [] σ := by
  unfold qX4_again_B114 at h
  refine fr_iconst (pc := 114) O (v := (0 : Int32)) dX4_again_114 (by decide) ?_
  exact kX4_again_B115 hG O hk18 hk70 h
def qX4_again_L70 (post : Int32 → Mem → Prop) (k18 : Int32 → Int32 → Mem → Prop) (k70 : Int32 → Int32 → Int32 → Int32 → Mem → Prop) (x1 : Int32) (x2 : Int32) (x3 : Int32) (x4 : Int32) (σ : Mem) : Prop := (vp_in (16 : Int32) 234 ∧ (((σ 1 (16 : Int32).toNatClampNeg) ≤ x4 → ((x3 = 0 → (∀ y2_128 : Int32, y2_128 = x2 + (1 : Int32) → k18 x1 y2_128 σ)) ∧ (¬ x3 = 0 → post x2 σ))) ∧ (¬ (σ 1 (16 : Int32).toNatClampNeg) ≤ x4 → ((x3 = 0 → qX4_again_B114 post k18 k70 x1 x2 x4 σ) ∧ (¬ x3 = 0 → (vp_in ((168 : Int32) + x4) 234 ∧ (vp_in ((12 : Int32) + x4) 234 ∧ ((¬ (σ 1 ((168 : Int32) + x4).toNatClampNeg) = (σ 1 ((12 : Int32) + x4).toNatClampNeg) → qX4_again_B114 post k18 k70 x1 x2 x4 σ) ∧ ((σ 1 ((168 : Int32) + x4).toNatClampNeg) = (σ 1 ((12 : Int32) + x4).toNatClampNeg) → qX4_again_B115 post k18 k70 x1 x2 x4 (1 : Int32) σ)))))))))
set_option maxRecDepth 20000 in
theorem kX4_again_L70 {X : Cx} {G : Gw} (hG : fw_IsM G) (O : fw_Ok X G cX4_again 5 RX4 3 75 (some .int))  {post : Int32 → Mem → Prop} {k18 : Int32 → Int32 → Mem → Prop} {k70 : Int32 → Int32 → Int32 → Int32 → Mem → Prop}  (hk18 : ∀ (x1 : Int32) (x2 : Int32) (σ : Mem), k18 x1 x2 σ → fw_At X G 5 (fw_QI X G post) 18 [(0, .ref (gad G 0)), (1, .int x1), (2, .int x2)] [] σ) (hk70 : ∀ (x1 : Int32) (x2 : Int32) (x3 : Int32) (x4 : Int32) (σ : Mem), k70 x1 x2 x3 x4 σ → fw_At X G 5 (fw_QI X G post) 70 [(0, .ref (gad G 0)), (1, .int x1), (2, .int x2), (3, .int x3), (4, .int x4)] [] σ) {x1 : Int32} {x2 : Int32} {x3 : Int32} {x4 : Int32} {σ : Mem} (h : qX4_again_L70 post k18 k70 x1 x2 x3 x4 σ) : fw_At X G 5 (fw_QI X G post) 70 [(0, .ref (gad G 0)), (1, .int x1), (2, .int x2), (3, .int x3), (4, .int x4)] [] σ := by
  unfold qX4_again_L70 at h
  refine fr_iload (pc := 70) O 4 dX4_again_70 rfl ?_
  refine fr_aload_n (pc := 72) O 0 dX4_again_72 rfl rfl ?_
  refine fr_get (pc := 73) (k := 0) (v := .ref (gad G 1)) O cl_X4 m_713 (sM_0 hG) (by decide) rfl rfl dX4_again_73 ?_
  refine fr_bipush (pc := 76) O (v := (16 : Int32)) dX4_again_76 (by decide) ?_
  have hi_78 := h.1
  have h := h.2
  refine fr_iald (pc := 78) O (sM_1 hG) hi_78 dX4_again_78 ?_
  refine fr_icmp_ge (pc := 79) (tgt := 122) O dX4_again_79 (by decide) (fun c_79 => ?_) (fun c_79 => ?_)
  · have h := h.1 c_79
    refine fr_iload_n (pc := 122) O 3 dX4_again_122 rfl rfl ?_
    refine fr_if_eq (pc := 123) (tgt := 128) O dX4_again_123 (by decide) (fun c_123 => ?_) (fun c_123 => ?_)
    · have h := h.1 c_123
      refine fr_iinc (pc := 128) O 2 [1, 2, 0, 3, 4] (w := (1 : Int32)) (lvF := fun y2_128 => [(0, .ref (gad G 0)), (1, .int x1), (2, .int y2_128), (3, .int x3), (4, .int x4)]) dX4_again_128 rfl (by decide) (by decide) (fun _ => rfl) (fun y2_128 e_y2_128 => ?_)
      have h := h y2_128 e_y2_128
      refine fr_goto (pc := 131) (tgt := 18) O dX4_again_131 (by decide) ?_
      refine fw_sub (lv' := [(0, .ref (gad G 0)), (1, .int x1), (2, .int y2_128)]) [0, 1, 2] rfl ?_
      exact hk18 _ _ _ h
    · have h := h.2 c_123
      refine fr_iload_n (pc := 126) O 2 dX4_again_126 rfl rfl ?_
      exact fr_iret (pc := 127) O dX4_again_127 h
  · have h := h.2 c_79
    refine fr_iload_n (pc := 82) O 3 dX4_again_82 rfl rfl ?_
    refine fr_if_eq (pc := 83) (tgt := 114) O dX4_again_83 (by decide) (fun c_83 => ?_) (fun c_83 => ?_)
    · have h := h.1 c_83
      refine fw_sub (lv' := [(0, .ref (gad G 0)), (1, .int x1), (2, .int x2), (4, .int x4)]) [0, 1, 2, 4] rfl ?_
      exact kX4_again_B114 hG O hk18 hk70 h
    · have h := h.2 c_83
      refine fr_aload_n (pc := 86) O 0 dX4_again_86 rfl rfl ?_
      refine fr_get (pc := 87) (k := 0) (v := .ref (gad G 1)) O cl_X4 m_713 (sM_0 hG) (by decide) rfl rfl dX4_again_87 ?_
      refine fr_sipush (pc := 90) O (v := (168 : Int32)) dX4_again_90 (by decide) ?_
      refine fr_iload (pc := 93) O 4 dX4_again_93 rfl ?_
      refine fr_iadd (pc := 95) O dX4_again_95 ?_
      have hi_96 := h.1
      have h := h.2
      refine fr_iald (pc := 96) O (sM_1 hG) hi_96 dX4_again_96 ?_
      refine fr_aload_n (pc := 97) O 0 dX4_again_97 rfl rfl ?_
      refine fr_get (pc := 98) (k := 0) (v := .ref (gad G 1)) O cl_X4 m_713 (sM_0 hG) (by decide) rfl rfl dX4_again_98 ?_
      refine fr_bipush (pc := 101) O (v := (12 : Int32)) dX4_again_101 (by decide) ?_
      refine fr_iload (pc := 103) O 4 dX4_again_103 rfl ?_
      refine fr_iadd (pc := 105) O dX4_again_105 ?_
      have hi_106 := h.1
      have h := h.2
      refine fr_iald (pc := 106) O (sM_1 hG) hi_106 dX4_again_106 ?_
      refine fr_icmp_ne (pc := 107) (tgt := 114) O dX4_again_107 (by decide) (fun c_107 => ?_) (fun c_107 => ?_)
      · have h := h.1 c_107
        refine fw_sub (lv' := [(0, .ref (gad G 0)), (1, .int x1), (2, .int x2), (4, .int x4)]) [0, 1, 2, 4] rfl ?_
        exact kX4_again_B114 hG O hk18 hk70 h
      · have h := h.2 c_107
        refine fr_iconst (pc := 110) O (v := (1 : Int32)) dX4_again_110 (by decide) ?_
        refine fr_goto (pc := 111) (tgt := 115) O dX4_again_111 (by decide) ?_
        refine fw_sub (lv' := [(0, .ref (gad G 0)), (1, .int x1), (2, .int x2), (4, .int x4)]) [0, 1, 2, 4] rfl ?_
        exact kX4_again_B115 hG O hk18 hk70 h
set_option maxRecDepth 20000 in
theorem kX4_again_L70w {X : Cx} {G : Gw} (hG : fw_IsM G) (O : fw_Ok X G cX4_again 5 RX4 3 75 (some .int))  {post : Int32 → Mem → Prop} {k18 : Int32 → Int32 → Mem → Prop}  (hk18 : ∀ (x1 : Int32) (x2 : Int32) (σ : Mem), k18 x1 x2 σ → fw_At X G 5 (fw_QI X G post) 18 [(0, .ref (gad G 0)), (1, .int x1), (2, .int x2)] [] σ) {n9 : Nat} {x1 : Int32} {x2 : Int32} {x3 : Int32} {x4 : Int32} {σ : Mem} (h : it4 (qX4_again_L70 post k18) n9 x1 x2 x3 x4 σ) : fw_At X G 5 (fw_QI X G post) 70 [(0, .ref (gad G 0)), (1, .int x1), (2, .int x2), (3, .int x3), (4, .int x4)] [] σ :=
  it4_walk (T := fun x1 x2 x3 x4 σ => fw_At X G 5 (fw_QI X G post) 70 [(0, .ref (gad G 0)), (1, .int x1), (2, .int x2), (3, .int x3), (4, .int x4)] [] σ) (fun k70 hk70 x1 x2 x3 x4 σ h => kX4_again_L70 hG O hk18 hk70 h) n9 x1 x2 x3 x4 σ h
def qX4_again_B66 (post : Int32 → Mem → Prop) (k18 : Int32 → Int32 → Mem → Prop) (x1 : Int32) (x2 : Int32) (s0 : Int32) (σ : Mem) : Prop := ∃ n9, it4 (qX4_again_L70 post k18) n9 x1 x2 s0 (0 : Int32) σ
set_option maxRecDepth 20000 in
theorem kX4_again_B66 {X : Cx} {G : Gw} (hG : fw_IsM G) (O : fw_Ok X G cX4_again 5 RX4 3 75 (some .int))  {post : Int32 → Mem → Prop} {k18 : Int32 → Int32 → Mem → Prop}  (hk18 : ∀ (x1 : Int32) (x2 : Int32) (σ : Mem), k18 x1 x2 σ → fw_At X G 5 (fw_QI X G post) 18 [(0, .ref (gad G 0)), (1, .int x1), (2, .int x2)] [] σ) {x1 : Int32} {x2 : Int32} {s0 : Int32} {σ : Mem} (h : qX4_again_B66 post k18 x1 x2 s0 σ) : fw_At X G 5 (fw_QI X G post) 66 [(0, .ref (gad G 0)), (1, .int x1), (2, .int x2)] [.int s0] σ := by
  unfold qX4_again_B66 at h
  refine fr_istore_n (pc := 66) O [1, 2, 3, 0] (lv' := [(0, .ref (gad G 0)), (1, .int x1), (2, .int x2), (3, .int s0)]) dX4_again_66 rfl (by decide) rfl ?_
  refine fr_iconst (pc := 67) O (v := (0 : Int32)) dX4_again_67 (by decide) ?_
  refine fr_istore (pc := 68) O [1, 2, 3, 4, 0] (lv' := [(0, .ref (gad G 0)), (1, .int x1), (2, .int x2), (3, .int s0), (4, .int (0 : Int32))]) dX4_again_68 (by decide) rfl ?_
  obtain ⟨n9, h⟩ := h
  exact kX4_again_L70w hG O hk18 h
def qX4_again_B65 (post : Int32 → Mem → Prop) (k18 : Int32 → Int32 → Mem → Prop) (x1 : Int32) (x2 : Int32) (σ : Mem) : Prop := qX4_again_B66 post k18 x1 x2 (0 : Int32) σ
set_option maxRecDepth 20000 in
theorem kX4_again_B65 {X : Cx} {G : Gw} (hG : fw_IsM G) (O : fw_Ok X G cX4_again 5 RX4 3 75 (some .int))  {post : Int32 → Mem → Prop} {k18 : Int32 → Int32 → Mem → Prop}  (hk18 : ∀ (x1 : Int32) (x2 : Int32) (σ : Mem), k18 x1 x2 σ → fw_At X G 5 (fw_QI X G post) 18 [(0, .ref (gad G 0)), (1, .int x1), (2, .int x2)] [] σ) {x1 : Int32} {x2 : Int32} {σ : Mem} (h : qX4_again_B65 post k18 x1 x2 σ) : fw_At X G 5 (fw_QI X G post) 65 [(0, .ref (gad G 0)), (1, .int x1), (2, .int x2)] [] σ := by
  unfold qX4_again_B65 at h
  refine fr_iconst (pc := 65) O (v := (0 : Int32)) dX4_again_65 (by decide) ?_
  exact kX4_again_B66 hG O hk18 h
def qX4_again_B43 (post : Int32 → Mem → Prop) (k18 : Int32 → Int32 → Mem → Prop) (x1 : Int32) (x2 : Int32) (σ : Mem) : Prop := (vp_in (191 : Int32) 234 ∧ (vp_in (35 : Int32) 234 ∧ ((¬ (σ 1 (191 : Int32).toNatClampNeg) = (σ 1 (35 : Int32).toNatClampNeg) → qX4_again_B65 post k18 x1 x2 σ) ∧ ((σ 1 (191 : Int32).toNatClampNeg) = (σ 1 (35 : Int32).toNatClampNeg) → qX4_again_B66 post k18 x1 x2 (1 : Int32) σ))))
set_option maxRecDepth 20000 in
theorem kX4_again_B43 {X : Cx} {G : Gw} (hG : fw_IsM G) (O : fw_Ok X G cX4_again 5 RX4 3 75 (some .int))  {post : Int32 → Mem → Prop} {k18 : Int32 → Int32 → Mem → Prop}  (hk18 : ∀ (x1 : Int32) (x2 : Int32) (σ : Mem), k18 x1 x2 σ → fw_At X G 5 (fw_QI X G post) 18 [(0, .ref (gad G 0)), (1, .int x1), (2, .int x2)] [] σ) {x1 : Int32} {x2 : Int32} {σ : Mem} (h : qX4_again_B43 post k18 x1 x2 σ) : fw_At X G 5 (fw_QI X G post) 43 [(0, .ref (gad G 0)), (1, .int x1), (2, .int x2)] [] σ := by
  unfold qX4_again_B43 at h
  refine fr_aload_n (pc := 43) O 0 dX4_again_43 rfl rfl ?_
  refine fr_get (pc := 44) (k := 0) (v := .ref (gad G 1)) O cl_X4 m_713 (sM_0 hG) (by decide) rfl rfl dX4_again_44 ?_
  refine fr_sipush (pc := 47) O (v := (191 : Int32)) dX4_again_47 (by decide) ?_
  have hi_50 := h.1
  have h := h.2
  refine fr_iald (pc := 50) O (sM_1 hG) hi_50 dX4_again_50 ?_
  refine fr_aload_n (pc := 51) O 0 dX4_again_51 rfl rfl ?_
  refine fr_get (pc := 52) (k := 0) (v := .ref (gad G 1)) O cl_X4 m_713 (sM_0 hG) (by decide) rfl rfl dX4_again_52 ?_
  refine fr_bipush (pc := 55) O (v := (35 : Int32)) dX4_again_55 (by decide) ?_
  have hi_57 := h.1
  have h := h.2
  refine fr_iald (pc := 57) O (sM_1 hG) hi_57 dX4_again_57 ?_
  refine fr_icmp_ne (pc := 58) (tgt := 65) O dX4_again_58 (by decide) (fun c_58 => ?_) (fun c_58 => ?_)
  · have h := h.1 c_58
    exact kX4_again_B65 hG O hk18 h
  · have h := h.2 c_58
    refine fr_iconst (pc := 61) O (v := (1 : Int32)) dX4_again_61 (by decide) ?_
    refine fr_goto (pc := 62) (tgt := 66) O dX4_again_62 (by decide) ?_
    exact kX4_again_B66 hG O hk18 h
def qX4_again_L18 (post : Int32 → Mem → Prop) (k18 : Int32 → Int32 → Mem → Prop) (x1 : Int32) (x2 : Int32) (σ : Mem) : Prop := (((200 : Int32) < x2 → post (-4 : Int32) σ) ∧ (¬ (200 : Int32) < x2 → (qX4_tickOn (156 : Int32) (0 : Int32) σ (fun σ30 => ((x1 = 0 → qX4_again_B43 post k18 x1 x2 σ30) ∧ (¬ x1 = 0 → (¬ x1 = 0 ∧ ((¬ (x2 - x2 / x1 * x1) = 0 → qX4_again_B65 post k18 x1 x2 σ30) ∧ ((x2 - x2 / x1 * x1) = 0 → qX4_again_B43 post k18 x1 x2 σ30)))))))))
set_option maxRecDepth 20000 in
theorem kX4_again_L18 {X : Cx} {G : Gw} (hG : fw_IsM G) (O : fw_Ok X G cX4_again 5 RX4 3 75 (some .int))  {post : Int32 → Mem → Prop} {k18 : Int32 → Int32 → Mem → Prop}  (hk18 : ∀ (x1 : Int32) (x2 : Int32) (σ : Mem), k18 x1 x2 σ → fw_At X G 5 (fw_QI X G post) 18 [(0, .ref (gad G 0)), (1, .int x1), (2, .int x2)] [] σ) {x1 : Int32} {x2 : Int32} {σ : Mem} (h : qX4_again_L18 post k18 x1 x2 σ) : fw_At X G 5 (fw_QI X G post) 18 [(0, .ref (gad G 0)), (1, .int x1), (2, .int x2)] [] σ := by
  unfold qX4_again_L18 at h
  refine fr_iload_n (pc := 18) O 2 dX4_again_18 rfl rfl ?_
  refine fr_sipush (pc := 19) O (v := (200 : Int32)) dX4_again_19 (by decide) ?_
  refine fr_icmp_gt (pc := 22) (tgt := 134) O dX4_again_22 (by decide) (fun c_22 => ?_) (fun c_22 => ?_)
  · have h := h.1 c_22
    refine fr_bipush (pc := 134) O (v := (-4 : Int32)) dX4_again_134 (by decide) ?_
    exact fr_iret (pc := 136) O dX4_again_136 h
  · have h := h.2 c_22
    refine fr_aload_n (pc := 25) O 0 dX4_again_25 rfl rfl ?_
    refine fr_sipush (pc := 26) O (v := (156 : Int32)) dX4_again_26 (by decide) ?_
    refine fr_iconst (pc := 29) O (v := (0 : Int32)) dX4_again_29 (by decide) ?_
    refine fr_callVV (pc := 30) (st := []) O (tX4_tickOn X.2.1 hG  h) mt_X4_tickOn mv_X4_tickOn m_928 cl_X4 rfl (sM_0 hG) rfl (by decide) rfl (Nat.le_of_ble_eq_true rfl) dX4_again_30 (fun σ30 h => ?_)
    refine fr_iload_n (pc := 33) O 1 dX4_again_33 rfl rfl ?_
    refine fr_if_eq (pc := 34) (tgt := 43) O dX4_again_34 (by decide) (fun c_34 => ?_) (fun c_34 => ?_)
    · have h := h.1 c_34
      exact kX4_again_B43 hG O hk18 h
    · have h := h.2 c_34
      refine fr_iload_n (pc := 37) O 2 dX4_again_37 rfl rfl ?_
      refine fr_iload_n (pc := 38) O 1 dX4_again_38 rfl rfl ?_
      refine fr_irem (pc := 39) O h.1 dX4_again_39 ?_
      have h := h.2
      refine fr_if_ne (pc := 40) (tgt := 65) O dX4_again_40 (by decide) (fun c_40 => ?_) (fun c_40 => ?_)
      · have h := h.1 c_40
        exact kX4_again_B65 hG O hk18 h
      · have h := h.2 c_40
        exact kX4_again_B43 hG O hk18 h
set_option maxRecDepth 20000 in
theorem kX4_again_L18w {X : Cx} {G : Gw} (hG : fw_IsM G) (O : fw_Ok X G cX4_again 5 RX4 3 75 (some .int))  {post : Int32 → Mem → Prop}   {n9 : Nat} {x1 : Int32} {x2 : Int32} {σ : Mem} (h : it2 (qX4_again_L18 post) n9 x1 x2 σ) : fw_At X G 5 (fw_QI X G post) 18 [(0, .ref (gad G 0)), (1, .int x1), (2, .int x2)] [] σ :=
  it2_walk (T := fun x1 x2 σ => fw_At X G 5 (fw_QI X G post) 18 [(0, .ref (gad G 0)), (1, .int x1), (2, .int x2)] [] σ) (fun k18 hk18 x1 x2 σ h => kX4_again_L18 hG O hk18 h) n9 x1 x2 σ h
def qX4_again  (σ : Mem) (post : Int32 → Mem → Prop) : Prop := (vp_in (33 : Int32) 234 ∧ (∀ y1_7 : Int32, y1_7 = σ 1 (33 : Int32).toNatClampNeg → (qX4_copies (0 : Int32) (156 : Int32) σ (fun σ13 => ∃ n9, it2 (qX4_again_L18 post) n9 y1_7 (1 : Int32) σ13))))
set_option maxRecDepth 20000 in
theorem kX4_again {X : Cx} {G : Gw} (hG : fw_IsM G) (O : fw_Ok X G cX4_again 5 RX4 3 75 (some .int))   {σ : Mem} {post : Int32 → Mem → Prop} (h : qX4_again  σ post) : fw_At X G 5 (fw_QI X G post) 0 [(0, .ref (gad G 0))] [] σ := by
  unfold qX4_again at h
  refine fr_aload_n (pc := 0) O 0 dX4_again_0 rfl rfl ?_
  refine fr_get (pc := 1) (k := 0) (v := .ref (gad G 1)) O cl_X4 m_713 (sM_0 hG) (by decide) rfl rfl dX4_again_1 ?_
  refine fr_bipush (pc := 4) O (v := (33 : Int32)) dX4_again_4 (by decide) ?_
  have hi_6 := h.1
  have h := h.2
  refine fr_iald (pc := 6) O (sM_1 hG) hi_6 dX4_again_6 ?_
  refine fr_nm (fun y1_7 e_y1_7 => ?_)
  have h := h y1_7 e_y1_7
  refine fr_istore_n (pc := 7) O [1, 0] (lv' := [(0, .ref (gad G 0)), (1, .int y1_7)]) dX4_again_7 rfl (by decide) rfl ?_
  refine fr_aload_n (pc := 8) O 0 dX4_again_8 rfl rfl ?_
  refine fr_iconst (pc := 9) O (v := (0 : Int32)) dX4_again_9 (by decide) ?_
  refine fr_sipush (pc := 10) O (v := (156 : Int32)) dX4_again_10 (by decide) ?_
  refine fr_callVV (pc := 13) (st := []) O (tX4_copies X.2.1 hG  h) mt_X4_copies mv_X4_copies m_949 cl_X4 rfl (sM_0 hG) rfl (by decide) rfl (Nat.le_of_ble_eq_true rfl) dX4_again_13 (fun σ13 h => ?_)
  refine fr_iconst (pc := 16) O (v := (1 : Int32)) dX4_again_16 (by decide) ?_
  refine fr_istore_n (pc := 17) O [1, 2, 0] (lv' := [(0, .ref (gad G 0)), (1, .int y1_7), (2, .int (1 : Int32))]) dX4_again_17 rfl (by decide) rfl ?_
  obtain ⟨n9, h⟩ := h
  exact kX4_again_L18w hG O  h
theorem tX4_again (l : Launch) {G : Gw} (hG : fw_IsM G)   {σ : Mem} {post : Int32 → Mem → Prop} (h : qX4_again  σ post) : fw_CI l G yX4_again cX4_again 5 .int 3 75 [.ref (gad G 0)] σ post := fw_ofI (sok_M hG) (by decide) (Nat.le_of_ble_eq_true rfl) (fun X O => kX4_again hG O  h)
def qX4_mostAt_B96 (a1 : Int32) (a2 : Int32) (a3 : Int32) (a4 : Int32) (a5 : Int32) (post : Int32 → Mem → Prop) (s0 : Int32) (σ : Mem) : Prop := post s0 σ
set_option maxRecDepth 20000 in
theorem kX4_mostAt_B96 {X : Cx} {G : Gw} (hG : fw_IsM G) (O : fw_Ok X G cX4_mostAt 10 RX4 4 98 (some .int)) {a1 : Int32} {a2 : Int32} {a3 : Int32} {a4 : Int32} {a5 : Int32} {post : Int32 → Mem → Prop}   {s0 : Int32} {σ : Mem} (h : qX4_mostAt_B96 a1 a2 a3 a4 a5 post s0 σ) : fw_At X G 10 (fw_QI X G post) 96 [(0, .ref (gad G 0)), (1, .int a1), (2, .int a2), (3, .int a3), (4, .int a4), (5, .int a5)] [.int s0] σ := by
  unfold qX4_mostAt_B96 at h
  exact fr_iret (pc := 96) O dX4_mostAt_96 h
def qX4_mostAt_B76 (a1 : Int32) (a2 : Int32) (a3 : Int32) (a4 : Int32) (a5 : Int32) (post : Int32 → Mem → Prop) (k17 : Int32 → Int32 → Int32 → Mem → Prop) (x7 : Int32) (x8 : Int32) (s0 : Int32) (σ : Mem) : Prop := (∀ y8_78 : Int32, y8_78 = x8 + (1 : Int32) → k17 s0 x7 y8_78 σ)
set_option maxRecDepth 20000 in
theorem kX4_mostAt_B76 {X : Cx} {G : Gw} (hG : fw_IsM G) (O : fw_Ok X G cX4_mostAt 10 RX4 4 98 (some .int)) {a1 : Int32} {a2 : Int32} {a3 : Int32} {a4 : Int32} {a5 : Int32} {post : Int32 → Mem → Prop} {k17 : Int32 → Int32 → Int32 → Mem → Prop}  (hk17 : ∀ (x6 : Int32) (x7 : Int32) (x8 : Int32) (σ : Mem), k17 x6 x7 x8 σ → fw_At X G 10 (fw_QI X G post) 17 [(0, .ref (gad G 0)), (1, .int a1), (2, .int a2), (3, .int a3), (4, .int a4), (5, .int a5), (6, .int x6), (7, .int x7), (8, .int x8)] [] σ) {x7 : Int32} {x8 : Int32} {s0 : Int32} {σ : Mem} (h : qX4_mostAt_B76 a1 a2 a3 a4 a5 post k17 x7 x8 s0 σ) : fw_At X G 10 (fw_QI X G post) 76 [(0, .ref (gad G 0)), (1, .int a1), (2, .int a2), (3, .int a3), (4, .int a4), (5, .int a5), (7, .int x7), (8, .int x8)] [.int s0] σ := by
  unfold qX4_mostAt_B76 at h
  refine fr_istore (pc := 76) O [1, 2, 3, 4, 5, 6, 0, 7, 8] (lv' := [(0, .ref (gad G 0)), (1, .int a1), (2, .int a2), (3, .int a3), (4, .int a4), (5, .int a5), (6, .int s0), (7, .int x7), (8, .int x8)]) dX4_mostAt_76 (by decide) rfl ?_
  refine fr_iinc (pc := 78) O 8 [1, 2, 3, 4, 5, 6, 7, 8, 0] (w := (1 : Int32)) (lvF := fun y8_78 => [(0, .ref (gad G 0)), (1, .int a1), (2, .int a2), (3, .int a3), (4, .int a4), (5, .int a5), (6, .int s0), (7, .int x7), (8, .int y8_78)]) dX4_mostAt_78 rfl (by decide) (by decide) (fun _ => rfl) (fun y8_78 e_y8_78 => ?_)
  have h := h y8_78 e_y8_78
  refine fr_goto (pc := 81) (tgt := 17) O dX4_mostAt_81 (by decide) ?_
  exact hk17 _ _ _ _ h
def qX4_mostAt_B60 (a1 : Int32) (a2 : Int32) (a3 : Int32) (a4 : Int32) (a5 : Int32) (post : Int32 → Mem → Prop) (k17 : Int32 → Int32 → Int32 → Mem → Prop) (x6 : Int32) (x8 : Int32) (x9 : Int32) (s0 : Int32) (σ : Mem) : Prop := ((x9 ≤ x6 → qX4_mostAt_B76 a1 a2 a3 a4 a5 post k17 s0 x8 x6 σ) ∧ (¬ x9 ≤ x6 → qX4_mostAt_B76 a1 a2 a3 a4 a5 post k17 s0 x8 x9 σ))
set_option maxRecDepth 20000 in
theorem kX4_mostAt_B60 {X : Cx} {G : Gw} (hG : fw_IsM G) (O : fw_Ok X G cX4_mostAt 10 RX4 4 98 (some .int)) {a1 : Int32} {a2 : Int32} {a3 : Int32} {a4 : Int32} {a5 : Int32} {post : Int32 → Mem → Prop} {k17 : Int32 → Int32 → Int32 → Mem → Prop}  (hk17 : ∀ (x6 : Int32) (x7 : Int32) (x8 : Int32) (σ : Mem), k17 x6 x7 x8 σ → fw_At X G 10 (fw_QI X G post) 17 [(0, .ref (gad G 0)), (1, .int a1), (2, .int a2), (3, .int a3), (4, .int a4), (5, .int a5), (6, .int x6), (7, .int x7), (8, .int x8)] [] σ) {x6 : Int32} {x8 : Int32} {x9 : Int32} {s0 : Int32} {σ : Mem} (h : qX4_mostAt_B60 a1 a2 a3 a4 a5 post k17 x6 x8 x9 s0 σ) : fw_At X G 10 (fw_QI X G post) 60 [(0, .ref (gad G 0)), (1, .int a1), (2, .int a2), (3, .int a3), (4, .int a4), (5, .int a5), (6, .int x6), (8, .int x8), (9, .int x9)] [.int s0] σ := by
  unfold qX4_mostAt_B60 at h
  refine fr_istore (pc := 60) O [1, 2, 3, 4, 5, 6, 7, 0, 8, 9] (lv' := [(0, .ref (gad G 0)), (1, .int a1), (2, .int a2), (3, .int a3), (4, .int a4), (5, .int a5), (6, .int x6), (7, .int s0), (8, .int x8), (9, .int x9)]) dX4_mostAt_60 (by decide) rfl ?_
  refine fr_iload (pc := 62) O 9 dX4_mostAt_62 rfl ?_
  refine fr_iload (pc := 64) O 6 dX4_mostAt_64 rfl ?_
  refine fr_icmp_le (pc := 66) (tgt := 74) O dX4_mostAt_66 (by decide) (fun c_66 => ?_) (fun c_66 => ?_)
  · have h := h.1 c_66
    refine fr_iload (pc := 74) O 6 dX4_mostAt_74 rfl ?_
    refine fw_sub (lv' := [(0, .ref (gad G 0)), (1, .int a1), (2, .int a2), (3, .int a3), (4, .int a4), (5, .int a5), (7, .int s0), (8, .int x8)]) [0, 1, 2, 3, 4, 5, 7, 8] rfl ?_
    exact kX4_mostAt_B76 hG O hk17 h
  · have h := h.2 c_66
    refine fr_iload (pc := 69) O 9 dX4_mostAt_69 rfl ?_
    refine fr_goto (pc := 71) (tgt := 76) O dX4_mostAt_71 (by decide) ?_
    refine fw_sub (lv' := [(0, .ref (gad G 0)), (1, .int a1), (2, .int a2), (3, .int a3), (4, .int a4), (5, .int a5), (7, .int s0), (8, .int x8)]) [0, 1, 2, 3, 4, 5, 7, 8] rfl ?_
    exact kX4_mostAt_B76 hG O hk17 h
def qX4_mostAt_L17 (a1 : Int32) (a2 : Int32) (a3 : Int32) (a4 : Int32) (a5 : Int32) (post : Int32 → Mem → Prop) (k17 : Int32 → Int32 → Int32 → Mem → Prop) (x6 : Int32) (x7 : Int32) (x8 : Int32) (σ : Mem) : Prop := ((a3 < x8 → ((¬ a5 = 0 → qX4_mostAt_B96 a1 a2 a3 a4 a5 post x6 σ) ∧ (a5 = 0 → qX4_mostAt_B96 a1 a2 a3 a4 a5 post x7 σ))) ∧ (¬ a3 < x8 → (vp_in ((195 : Int32) + a1) 234 ∧ (∀ σ34 : Mem, σ34 = up2 σ 1 ((195 : Int32) + a1).toNatClampNeg x8 → (qX4_ticksGo (195 : Int32) a4 σ34 (fun r41 σ41 => ((r41 ≤ x6 → qX4_mostAt_B60 a1 a2 a3 a4 a5 post k17 x6 x8 r41 x7 σ41) ∧ (¬ r41 ≤ x6 → qX4_mostAt_B60 a1 a2 a3 a4 a5 post k17 x6 x8 r41 x8 σ41))))))))
set_option maxRecDepth 20000 in
theorem kX4_mostAt_L17 {X : Cx} {G : Gw} (hG : fw_IsM G) (O : fw_Ok X G cX4_mostAt 10 RX4 4 98 (some .int)) {a1 : Int32} {a2 : Int32} {a3 : Int32} {a4 : Int32} {a5 : Int32} {post : Int32 → Mem → Prop} {k17 : Int32 → Int32 → Int32 → Mem → Prop}  (hk17 : ∀ (x6 : Int32) (x7 : Int32) (x8 : Int32) (σ : Mem), k17 x6 x7 x8 σ → fw_At X G 10 (fw_QI X G post) 17 [(0, .ref (gad G 0)), (1, .int a1), (2, .int a2), (3, .int a3), (4, .int a4), (5, .int a5), (6, .int x6), (7, .int x7), (8, .int x8)] [] σ) {x6 : Int32} {x7 : Int32} {x8 : Int32} {σ : Mem} (h : qX4_mostAt_L17 a1 a2 a3 a4 a5 post k17 x6 x7 x8 σ) : fw_At X G 10 (fw_QI X G post) 17 [(0, .ref (gad G 0)), (1, .int a1), (2, .int a2), (3, .int a3), (4, .int a4), (5, .int a5), (6, .int x6), (7, .int x7), (8, .int x8)] [] σ := by
  unfold qX4_mostAt_L17 at h
  refine fr_iload (pc := 17) O 8 dX4_mostAt_17 rfl ?_
  refine fr_iload_n (pc := 19) O 3 dX4_mostAt_19 rfl rfl ?_
  refine fr_icmp_gt (pc := 20) (tgt := 84) O dX4_mostAt_20 (by decide) (fun c_20 => ?_) (fun c_20 => ?_)
  · have h := h.1 c_20
    refine fr_iload (pc := 84) O 5 dX4_mostAt_84 rfl ?_
    refine fr_if_ne (pc := 86) (tgt := 94) O dX4_mostAt_86 (by decide) (fun c_86 => ?_) (fun c_86 => ?_)
    · have h := h.1 c_86
      refine fr_iload (pc := 94) O 6 dX4_mostAt_94 rfl ?_
      refine fw_sub (lv' := [(0, .ref (gad G 0)), (1, .int a1), (2, .int a2), (3, .int a3), (4, .int a4), (5, .int a5)]) [0, 1, 2, 3, 4, 5] rfl ?_
      exact kX4_mostAt_B96 hG O  h
    · have h := h.2 c_86
      refine fr_iload (pc := 89) O 7 dX4_mostAt_89 rfl ?_
      refine fr_goto (pc := 91) (tgt := 96) O dX4_mostAt_91 (by decide) ?_
      refine fw_sub (lv' := [(0, .ref (gad G 0)), (1, .int a1), (2, .int a2), (3, .int a3), (4, .int a4), (5, .int a5)]) [0, 1, 2, 3, 4, 5] rfl ?_
      exact kX4_mostAt_B96 hG O  h
  · have h := h.2 c_20
    refine fr_aload_n (pc := 23) O 0 dX4_mostAt_23 rfl rfl ?_
    refine fr_get (pc := 24) (k := 0) (v := .ref (gad G 1)) O cl_X4 m_713 (sM_0 hG) (by decide) rfl rfl dX4_mostAt_24 ?_
    refine fr_sipush (pc := 27) O (v := (195 : Int32)) dX4_mostAt_27 (by decide) ?_
    refine fr_iload_n (pc := 30) O 1 dX4_mostAt_30 rfl rfl ?_
    refine fr_iadd (pc := 31) O dX4_mostAt_31 ?_
    refine fr_iload (pc := 32) O 8 dX4_mostAt_32 rfl ?_
    have hi_34 := h.1
    have h := h.2
    refine fr_iast (pc := 34) O (sM_1 hG) hi_34 dX4_mostAt_34 (fun σ34 e_σ34 => ?_)
    have h := h σ34 e_σ34
    refine fr_aload_n (pc := 35) O 0 dX4_mostAt_35 rfl rfl ?_
    refine fr_sipush (pc := 36) O (v := (195 : Int32)) dX4_mostAt_36 (by decide) ?_
    refine fr_iload (pc := 39) O 4 dX4_mostAt_39 rfl ?_
    refine fr_callVI (pc := 41) (st := []) O (tX4_ticksGo X.2.1 hG  h) mt_X4_ticksGo mv_X4_ticksGo m_945 cl_X4 rfl (sM_0 hG) rfl (by decide) rfl (Nat.le_of_ble_eq_true rfl) dX4_mostAt_41 (fun r41 σ41 h => ?_)
    refine fr_istore (pc := 44) O [1, 2, 3, 4, 5, 6, 7, 8, 9, 0] (lv' := [(0, .ref (gad G 0)), (1, .int a1), (2, .int a2), (3, .int a3), (4, .int a4), (5, .int a5), (6, .int x6), (7, .int x7), (8, .int x8), (9, .int r41)]) dX4_mostAt_44 (by decide) rfl ?_
    refine fr_iload (pc := 46) O 9 dX4_mostAt_46 rfl ?_
    refine fr_iload (pc := 48) O 6 dX4_mostAt_48 rfl ?_
    refine fr_icmp_le (pc := 50) (tgt := 58) O dX4_mostAt_50 (by decide) (fun c_50 => ?_) (fun c_50 => ?_)
    · have h := h.1 c_50
      refine fr_iload (pc := 58) O 7 dX4_mostAt_58 rfl ?_
      refine fw_sub (lv' := [(0, .ref (gad G 0)), (1, .int a1), (2, .int a2), (3, .int a3), (4, .int a4), (5, .int a5), (6, .int x6), (8, .int x8), (9, .int r41)]) [0, 1, 2, 3, 4, 5, 6, 8, 9] rfl ?_
      exact kX4_mostAt_B60 hG O hk17 h
    · have h := h.2 c_50
      refine fr_iload (pc := 53) O 8 dX4_mostAt_53 rfl ?_
      refine fr_goto (pc := 55) (tgt := 60) O dX4_mostAt_55 (by decide) ?_
      refine fw_sub (lv' := [(0, .ref (gad G 0)), (1, .int a1), (2, .int a2), (3, .int a3), (4, .int a4), (5, .int a5), (6, .int x6), (8, .int x8), (9, .int r41)]) [0, 1, 2, 3, 4, 5, 6, 8, 9] rfl ?_
      exact kX4_mostAt_B60 hG O hk17 h
set_option maxRecDepth 20000 in
theorem kX4_mostAt_L17w {X : Cx} {G : Gw} (hG : fw_IsM G) (O : fw_Ok X G cX4_mostAt 10 RX4 4 98 (some .int)) {a1 : Int32} {a2 : Int32} {a3 : Int32} {a4 : Int32} {a5 : Int32} {post : Int32 → Mem → Prop}   {n9 : Nat} {x6 : Int32} {x7 : Int32} {x8 : Int32} {σ : Mem} (h : it3 (qX4_mostAt_L17 a1 a2 a3 a4 a5 post) n9 x6 x7 x8 σ) : fw_At X G 10 (fw_QI X G post) 17 [(0, .ref (gad G 0)), (1, .int a1), (2, .int a2), (3, .int a3), (4, .int a4), (5, .int a5), (6, .int x6), (7, .int x7), (8, .int x8)] [] σ :=
  it3_walk (T := fun x6 x7 x8 σ => fw_At X G 10 (fw_QI X G post) 17 [(0, .ref (gad G 0)), (1, .int a1), (2, .int a2), (3, .int a3), (4, .int a4), (5, .int a5), (6, .int x6), (7, .int x7), (8, .int x8)] [] σ) (fun k17 hk17 x6 x7 x8 σ h => kX4_mostAt_L17 hG O hk17 h) n9 x6 x7 x8 σ h
def qX4_mostAt (a1 : Int32) (a2 : Int32) (a3 : Int32) (a4 : Int32) (a5 : Int32) (σ : Mem) (post : Int32 → Mem → Prop) : Prop := (qX4_copies (0 : Int32) (195 : Int32) σ (fun σ11 => ∃ n9, it3 (qX4_mostAt_L17 a1 a2 a3 a4 a5 post) n9 (-1 : Int32) a2 a2 σ11))
set_option maxRecDepth 20000 in
theorem kX4_mostAt {X : Cx} {G : Gw} (hG : fw_IsM G) (O : fw_Ok X G cX4_mostAt 10 RX4 4 98 (some .int)) {a1 : Int32} {a2 : Int32} {a3 : Int32} {a4 : Int32} {a5 : Int32}  {σ : Mem} {post : Int32 → Mem → Prop} (h : qX4_mostAt a1 a2 a3 a4 a5 σ post) : fw_At X G 10 (fw_QI X G post) 0 [(0, .ref (gad G 0)), (1, .int a1), (2, .int a2), (3, .int a3), (4, .int a4), (5, .int a5)] [] σ := by
  unfold qX4_mostAt at h
  refine fr_iconst (pc := 0) O (v := (-1 : Int32)) dX4_mostAt_0 (by decide) ?_
  refine fr_istore (pc := 1) O [1, 2, 3, 4, 5, 6, 0] (lv' := [(0, .ref (gad G 0)), (1, .int a1), (2, .int a2), (3, .int a3), (4, .int a4), (5, .int a5), (6, .int (-1 : Int32))]) dX4_mostAt_1 (by decide) rfl ?_
  refine fr_iload_n (pc := 3) O 2 dX4_mostAt_3 rfl rfl ?_
  refine fr_istore (pc := 4) O [1, 2, 3, 4, 5, 6, 7, 0] (lv' := [(0, .ref (gad G 0)), (1, .int a1), (2, .int a2), (3, .int a3), (4, .int a4), (5, .int a5), (6, .int (-1 : Int32)), (7, .int a2)]) dX4_mostAt_4 (by decide) rfl ?_
  refine fr_aload_n (pc := 6) O 0 dX4_mostAt_6 rfl rfl ?_
  refine fr_iconst (pc := 7) O (v := (0 : Int32)) dX4_mostAt_7 (by decide) ?_
  refine fr_sipush (pc := 8) O (v := (195 : Int32)) dX4_mostAt_8 (by decide) ?_
  refine fr_callVV (pc := 11) (st := []) O (tX4_copies X.2.1 hG  h) mt_X4_copies mv_X4_copies m_949 cl_X4 rfl (sM_0 hG) rfl (by decide) rfl (Nat.le_of_ble_eq_true rfl) dX4_mostAt_11 (fun σ11 h => ?_)
  refine fr_iload_n (pc := 14) O 2 dX4_mostAt_14 rfl rfl ?_
  refine fr_istore (pc := 15) O [1, 2, 3, 4, 5, 6, 7, 8, 0] (lv' := [(0, .ref (gad G 0)), (1, .int a1), (2, .int a2), (3, .int a3), (4, .int a4), (5, .int a5), (6, .int (-1 : Int32)), (7, .int a2), (8, .int a2)]) dX4_mostAt_15 (by decide) rfl ?_
  obtain ⟨n9, h⟩ := h
  exact kX4_mostAt_L17w hG O  h
theorem tX4_mostAt (l : Launch) {G : Gw} (hG : fw_IsM G) {a1 : Int32} {a2 : Int32} {a3 : Int32} {a4 : Int32} {a5 : Int32}  {σ : Mem} {post : Int32 → Mem → Prop} (h : qX4_mostAt a1 a2 a3 a4 a5 σ post) : fw_CI l G yX4_mostAt cX4_mostAt 10 .int 4 98 [.ref (gad G 0), .int a1, .int a2, .int a3, .int a4, .int a5] σ post := fw_ofI (sok_M hG) (by decide) (Nat.le_of_ble_eq_true rfl) (fun X O => kX4_mostAt hG O  h)
def qX4_mass_B41 (a1 : Int32) (a2 : Int32) (a3 : Int32) (post : Int32 → Mem → Prop) (s0 : Int32) (σ : Mem) : Prop := post s0 σ
set_option maxRecDepth 20000 in
theorem kX4_mass_B41 {X : Cx} {G : Gw} (hG : fw_IsM G) (O : fw_Ok X G cX4_mass 4 RX4 5 127 (some .int)) {a1 : Int32} {a2 : Int32} {a3 : Int32} {post : Int32 → Mem → Prop}   {s0 : Int32} {σ : Mem} (h : qX4_mass_B41 a1 a2 a3 post s0 σ) : fw_At X G 4 (fw_QI X G post) 41 [(0, .ref (gad G 0)), (1, .int a1), (2, .int a2), (3, .int a3)] [.int s0] σ := by
  unfold qX4_mass_B41 at h
  exact fr_iret (pc := 41) O dX4_mass_41 h
def qX4_mass_B40 (a1 : Int32) (a2 : Int32) (a3 : Int32) (post : Int32 → Mem → Prop) (σ : Mem) : Prop := qX4_mass_B41 a1 a2 a3 post (-1 : Int32) σ
set_option maxRecDepth 20000 in
theorem kX4_mass_B40 {X : Cx} {G : Gw} (hG : fw_IsM G) (O : fw_Ok X G cX4_mass 4 RX4 5 127 (some .int)) {a1 : Int32} {a2 : Int32} {a3 : Int32} {post : Int32 → Mem → Prop}    {σ : Mem} (h : qX4_mass_B40 a1 a2 a3 post σ) : fw_At X G 4 (fw_QI X G post) 40 [(0, .ref (gad G 0)), (1, .int a1), (2, .int a2), (3, .int a3)] [] σ := by
  unfold qX4_mass_B40 at h
  refine fr_iconst (pc := 40) O (v := (-1 : Int32)) dX4_mass_40 (by decide) ?_
  exact kX4_mass_B41 hG O  h
def qX4_mass (a1 : Int32) (a2 : Int32) (a3 : Int32) (σ : Mem) (post : Int32 → Mem → Prop) : Prop := (qX4_isWheel a1 σ (fun r2 σ2 => ((r2 = 0 → qX4_mass_B40 a1 a2 a3 post σ2) ∧ (¬ r2 = 0 → (qX4_isLong a2 σ2 (fun r9 σ9 => ((r9 = 0 → qX4_mass_B40 a1 a2 a3 post σ9) ∧ (¬ r9 = 0 → (qX4_in a3.toInt64 (0 : Int64) (1 : Int64) σ9 (fun r19 σ19 => ((r19 = 0 → qX4_mass_B40 a1 a2 a3 post σ19) ∧ (¬ r19 = 0 → (qX4_mostAt ((4 : Int32) + a1) (1 : Int32) (20 : Int32) a2 a3 σ19 (fun r34 σ34 => qX4_mass_B41 a1 a2 a3 post r34 σ34))))))))))))))
set_option maxRecDepth 20000 in
theorem kX4_mass {X : Cx} {G : Gw} (hG : fw_IsM G) (O : fw_Ok X G cX4_mass 4 RX4 5 127 (some .int)) {a1 : Int32} {a2 : Int32} {a3 : Int32}  {σ : Mem} {post : Int32 → Mem → Prop} (h : qX4_mass a1 a2 a3 σ post) : fw_At X G 4 (fw_QI X G post) 0 [(0, .ref (gad G 0)), (1, .int a1), (2, .int a2), (3, .int a3)] [] σ := by
  unfold qX4_mass at h
  refine fr_aload_n (pc := 0) O 0 dX4_mass_0 rfl rfl ?_
  refine fr_iload_n (pc := 1) O 1 dX4_mass_1 rfl rfl ?_
  refine fr_callVI (pc := 2) (st := []) O (tX4_isWheel X.2.1 hG  h) mt_X4_isWheel mv_X4_isWheel m_857 cl_X4 rfl (sM_0 hG) rfl (by decide) rfl (Nat.le_of_ble_eq_true rfl) dX4_mass_2 (fun r2 σ2 h => ?_)
  refine fr_if_eq (pc := 5) (tgt := 40) O dX4_mass_5 (by decide) (fun c_5 => ?_) (fun c_5 => ?_)
  · have h := h.1 c_5
    exact kX4_mass_B40 hG O  h
  · have h := h.2 c_5
    refine fr_iload_n (pc := 8) O 2 dX4_mass_8 rfl rfl ?_
    refine fr_callSI (pc := 9) (st := []) O (tX4_isLong X.2.1 hG  h) mt_X4_isLong m_941 m_940 rfl (by decide) rfl (Nat.le_of_ble_eq_true rfl) dX4_mass_9 (fun r9 σ9 h => ?_)
    refine fr_if_eq (pc := 12) (tgt := 40) O dX4_mass_12 (by decide) (fun c_12 => ?_) (fun c_12 => ?_)
    · have h := h.1 c_12
      exact kX4_mass_B40 hG O  h
    · have h := h.2 c_12
      refine fr_iload_n (pc := 15) O 3 dX4_mass_15 rfl rfl ?_
      refine fr_i2l (pc := 16) O dX4_mass_16 ?_
      refine fr_lconst (pc := 17) O (v := (0 : Int64)) dX4_mass_17 (by decide) ?_
      refine fr_lconst (pc := 18) O (v := (1 : Int64)) dX4_mass_18 (by decide) ?_
      refine fr_callSI (pc := 19) (st := []) O (tX4_in X.2.1 hG  h) mt_X4_in m_798 m_797 rfl (by decide) rfl (Nat.le_of_ble_eq_true rfl) dX4_mass_19 (fun r19 σ19 h => ?_)
      refine fr_if_eq (pc := 22) (tgt := 40) O dX4_mass_22 (by decide) (fun c_22 => ?_) (fun c_22 => ?_)
      · have h := h.1 c_22
        exact kX4_mass_B40 hG O  h
      · have h := h.2 c_22
        refine fr_aload_n (pc := 25) O 0 dX4_mass_25 rfl rfl ?_
        refine fr_iconst (pc := 26) O (v := (4 : Int32)) dX4_mass_26 (by decide) ?_
        refine fr_iload_n (pc := 27) O 1 dX4_mass_27 rfl rfl ?_
        refine fr_iadd (pc := 28) O dX4_mass_28 ?_
        refine fr_iconst (pc := 29) O (v := (1 : Int32)) dX4_mass_29 (by decide) ?_
        refine fr_bipush (pc := 30) O (v := (20 : Int32)) dX4_mass_30 (by decide) ?_
        refine fr_iload_n (pc := 32) O 2 dX4_mass_32 rfl rfl ?_
        refine fr_iload_n (pc := 33) O 3 dX4_mass_33 rfl rfl ?_
        refine fr_callVI (pc := 34) (st := []) O (tX4_mostAt X.2.1 hG  h) mt_X4_mostAt mv_X4_mostAt m_977 cl_X4 rfl (sM_0 hG) rfl (by decide) rfl (Nat.le_of_ble_eq_true rfl) dX4_mass_34 (fun r34 σ34 h => ?_)
        refine fr_goto (pc := 37) (tgt := 41) O dX4_mass_37 (by decide) ?_
        exact kX4_mass_B41 hG O  h
theorem tX4_mass (l : Launch) {G : Gw} (hG : fw_IsM G) {a1 : Int32} {a2 : Int32} {a3 : Int32}  {σ : Mem} {post : Int32 → Mem → Prop} (h : qX4_mass a1 a2 a3 σ post) : fw_CI l G yX4_mass cX4_mass 4 .int 5 127 [.ref (gad G 0), .int a1, .int a2, .int a3] σ post := fw_ofI (sok_M hG) (by decide) (Nat.le_of_ble_eq_true rfl) (fun X O => kX4_mass hG O  h)
def qX4_kind_B38 (a1 : Int32) (a2 : Int32) (a3 : Int32) (post : Int32 → Mem → Prop) (s0 : Int32) (σ : Mem) : Prop := post s0 σ
set_option maxRecDepth 20000 in
theorem kX4_kind_B38 {X : Cx} {G : Gw} (hG : fw_IsM G) (O : fw_Ok X G cX4_kind 4 RX4 5 127 (some .int)) {a1 : Int32} {a2 : Int32} {a3 : Int32} {post : Int32 → Mem → Prop}   {s0 : Int32} {σ : Mem} (h : qX4_kind_B38 a1 a2 a3 post s0 σ) : fw_At X G 4 (fw_QI X G post) 38 [(0, .ref (gad G 0)), (1, .int a1), (2, .int a2), (3, .int a3)] [.int s0] σ := by
  unfold qX4_kind_B38 at h
  exact fr_iret (pc := 38) O dX4_kind_38 h
def qX4_kind_B37 (a1 : Int32) (a2 : Int32) (a3 : Int32) (post : Int32 → Mem → Prop) (σ : Mem) : Prop := qX4_kind_B38 a1 a2 a3 post (-1 : Int32) σ
set_option maxRecDepth 20000 in
theorem kX4_kind_B37 {X : Cx} {G : Gw} (hG : fw_IsM G) (O : fw_Ok X G cX4_kind 4 RX4 5 127 (some .int)) {a1 : Int32} {a2 : Int32} {a3 : Int32} {post : Int32 → Mem → Prop}    {σ : Mem} (h : qX4_kind_B37 a1 a2 a3 post σ) : fw_At X G 4 (fw_QI X G post) 37 [(0, .ref (gad G 0)), (1, .int a1), (2, .int a2), (3, .int a3)] [] σ := by
  unfold qX4_kind_B37 at h
  refine fr_iconst (pc := 37) O (v := (-1 : Int32)) dX4_kind_37 (by decide) ?_
  exact kX4_kind_B38 hG O  h
def qX4_kind (a1 : Int32) (a2 : Int32) (a3 : Int32) (σ : Mem) (post : Int32 → Mem → Prop) : Prop := (qX4_isWheel a1 σ (fun r2 σ2 => ((r2 = 0 → qX4_kind_B37 a1 a2 a3 post σ2) ∧ (¬ r2 = 0 → (qX4_isLong a2 σ2 (fun r9 σ9 => ((r9 = 0 → qX4_kind_B37 a1 a2 a3 post σ9) ∧ (¬ r9 = 0 → (qX4_in a3.toInt64 (0 : Int64) (1 : Int64) σ9 (fun r19 σ19 => ((r19 = 0 → qX4_kind_B37 a1 a2 a3 post σ19) ∧ (¬ r19 = 0 → (qX4_mostAt a1 (0 : Int32) (3 : Int32) a2 a3 σ19 (fun r31 σ31 => qX4_kind_B38 a1 a2 a3 post r31 σ31))))))))))))))
set_option maxRecDepth 20000 in
theorem kX4_kind {X : Cx} {G : Gw} (hG : fw_IsM G) (O : fw_Ok X G cX4_kind 4 RX4 5 127 (some .int)) {a1 : Int32} {a2 : Int32} {a3 : Int32}  {σ : Mem} {post : Int32 → Mem → Prop} (h : qX4_kind a1 a2 a3 σ post) : fw_At X G 4 (fw_QI X G post) 0 [(0, .ref (gad G 0)), (1, .int a1), (2, .int a2), (3, .int a3)] [] σ := by
  unfold qX4_kind at h
  refine fr_aload_n (pc := 0) O 0 dX4_kind_0 rfl rfl ?_
  refine fr_iload_n (pc := 1) O 1 dX4_kind_1 rfl rfl ?_
  refine fr_callVI (pc := 2) (st := []) O (tX4_isWheel X.2.1 hG  h) mt_X4_isWheel mv_X4_isWheel m_857 cl_X4 rfl (sM_0 hG) rfl (by decide) rfl (Nat.le_of_ble_eq_true rfl) dX4_kind_2 (fun r2 σ2 h => ?_)
  refine fr_if_eq (pc := 5) (tgt := 37) O dX4_kind_5 (by decide) (fun c_5 => ?_) (fun c_5 => ?_)
  · have h := h.1 c_5
    exact kX4_kind_B37 hG O  h
  · have h := h.2 c_5
    refine fr_iload_n (pc := 8) O 2 dX4_kind_8 rfl rfl ?_
    refine fr_callSI (pc := 9) (st := []) O (tX4_isLong X.2.1 hG  h) mt_X4_isLong m_941 m_940 rfl (by decide) rfl (Nat.le_of_ble_eq_true rfl) dX4_kind_9 (fun r9 σ9 h => ?_)
    refine fr_if_eq (pc := 12) (tgt := 37) O dX4_kind_12 (by decide) (fun c_12 => ?_) (fun c_12 => ?_)
    · have h := h.1 c_12
      exact kX4_kind_B37 hG O  h
    · have h := h.2 c_12
      refine fr_iload_n (pc := 15) O 3 dX4_kind_15 rfl rfl ?_
      refine fr_i2l (pc := 16) O dX4_kind_16 ?_
      refine fr_lconst (pc := 17) O (v := (0 : Int64)) dX4_kind_17 (by decide) ?_
      refine fr_lconst (pc := 18) O (v := (1 : Int64)) dX4_kind_18 (by decide) ?_
      refine fr_callSI (pc := 19) (st := []) O (tX4_in X.2.1 hG  h) mt_X4_in m_798 m_797 rfl (by decide) rfl (Nat.le_of_ble_eq_true rfl) dX4_kind_19 (fun r19 σ19 h => ?_)
      refine fr_if_eq (pc := 22) (tgt := 37) O dX4_kind_22 (by decide) (fun c_22 => ?_) (fun c_22 => ?_)
      · have h := h.1 c_22
        exact kX4_kind_B37 hG O  h
      · have h := h.2 c_22
        refine fr_aload_n (pc := 25) O 0 dX4_kind_25 rfl rfl ?_
        refine fr_iload_n (pc := 26) O 1 dX4_kind_26 rfl rfl ?_
        refine fr_iconst (pc := 27) O (v := (0 : Int32)) dX4_kind_27 (by decide) ?_
        refine fr_iconst (pc := 28) O (v := (3 : Int32)) dX4_kind_28 (by decide) ?_
        refine fr_iload_n (pc := 29) O 2 dX4_kind_29 rfl rfl ?_
        refine fr_iload_n (pc := 30) O 3 dX4_kind_30 rfl rfl ?_
        refine fr_callVI (pc := 31) (st := []) O (tX4_mostAt X.2.1 hG  h) mt_X4_mostAt mv_X4_mostAt m_977 cl_X4 rfl (sM_0 hG) rfl (by decide) rfl (Nat.le_of_ble_eq_true rfl) dX4_kind_31 (fun r31 σ31 h => ?_)
        refine fr_goto (pc := 34) (tgt := 38) O dX4_kind_34 (by decide) ?_
        exact kX4_kind_B38 hG O  h
theorem tX4_kind (l : Launch) {G : Gw} (hG : fw_IsM G) {a1 : Int32} {a2 : Int32} {a3 : Int32}  {σ : Mem} {post : Int32 → Mem → Prop} (h : qX4_kind a1 a2 a3 σ post) : fw_CI l G yX4_kind cX4_kind 4 .int 5 127 [.ref (gad G 0), .int a1, .int a2, .int a3] σ post := fw_ofI (sok_M hG) (by decide) (Nat.le_of_ble_eq_true rfl) (fun X O => kX4_kind hG O  h)
def qX4_bears_B15 (a1 : Int32) (a2 : Int32) (post : Int32 → Mem → Prop) (σ : Mem) : Prop := post (-1 : Int32) σ
set_option maxRecDepth 20000 in
theorem kX4_bears_B15 {X : Cx} {G : Gw} (hG : fw_IsM G) (O : fw_Ok X G cX4_bears 4 RX4 4 98 (some .int)) {a1 : Int32} {a2 : Int32} {post : Int32 → Mem → Prop}    {σ : Mem} (h : qX4_bears_B15 a1 a2 post σ) : fw_At X G 4 (fw_QI X G post) 15 [(0, .ref (gad G 0)), (1, .int a1), (2, .int a2)] [] σ := by
  unfold qX4_bears_B15 at h
  refine fr_iconst (pc := 15) O (v := (-1 : Int32)) dX4_bears_15 (by decide) ?_
  exact fr_iret (pc := 16) O dX4_bears_16 h
def qX4_bears_L28 (a1 : Int32) (a2 : Int32) (post : Int32 → Mem → Prop) (k28 : Int32 → Mem → Prop) (x3 : Int32) (σ : Mem) : Prop := ((x3 < 0 → post (-4 : Int32) σ) ∧ (¬ x3 < 0 → (vp_in ((203 : Int32) + a1) 234 ∧ (∀ σ42 : Mem, σ42 = up2 σ 1 ((203 : Int32) + a1).toNatClampNeg x3 → (qX4_ticksGo (195 : Int32) a2 σ42 (fun r48 σ48 => (qX4_lackThen σ48 (fun r53 σ53 => ((¬ r53 = 0 → (∀ y3_61 : Int32, y3_61 = x3 + (-1 : Int32) → k28 y3_61 σ53)) ∧ (r53 = 0 → post x3 σ53))))))))))
set_option maxRecDepth 20000 in
theorem kX4_bears_L28 {X : Cx} {G : Gw} (hG : fw_IsM G) (O : fw_Ok X G cX4_bears 4 RX4 4 98 (some .int)) {a1 : Int32} {a2 : Int32} {post : Int32 → Mem → Prop} {k28 : Int32 → Mem → Prop}  (hk28 : ∀ (x3 : Int32) (σ : Mem), k28 x3 σ → fw_At X G 4 (fw_QI X G post) 28 [(0, .ref (gad G 0)), (1, .int a1), (2, .int a2), (3, .int x3)] [] σ) {x3 : Int32} {σ : Mem} (h : qX4_bears_L28 a1 a2 post k28 x3 σ) : fw_At X G 4 (fw_QI X G post) 28 [(0, .ref (gad G 0)), (1, .int a1), (2, .int a2), (3, .int x3)] [] σ := by
  unfold qX4_bears_L28 at h
  refine fr_iload_n (pc := 28) O 3 dX4_bears_28 rfl rfl ?_
  refine fr_if_lt (pc := 29) (tgt := 67) O dX4_bears_29 (by decide) (fun c_29 => ?_) (fun c_29 => ?_)
  · have h := h.1 c_29
    refine fr_bipush (pc := 67) O (v := (-4 : Int32)) dX4_bears_67 (by decide) ?_
    exact fr_iret (pc := 69) O dX4_bears_69 h
  · have h := h.2 c_29
    refine fr_aload_n (pc := 32) O 0 dX4_bears_32 rfl rfl ?_
    refine fr_get (pc := 33) (k := 0) (v := .ref (gad G 1)) O cl_X4 m_713 (sM_0 hG) (by decide) rfl rfl dX4_bears_33 ?_
    refine fr_sipush (pc := 36) O (v := (203 : Int32)) dX4_bears_36 (by decide) ?_
    refine fr_iload_n (pc := 39) O 1 dX4_bears_39 rfl rfl ?_
    refine fr_iadd (pc := 40) O dX4_bears_40 ?_
    refine fr_iload_n (pc := 41) O 3 dX4_bears_41 rfl rfl ?_
    have hi_42 := h.1
    have h := h.2
    refine fr_iast (pc := 42) O (sM_1 hG) hi_42 dX4_bears_42 (fun σ42 e_σ42 => ?_)
    have h := h σ42 e_σ42
    refine fr_aload_n (pc := 43) O 0 dX4_bears_43 rfl rfl ?_
    refine fr_sipush (pc := 44) O (v := (195 : Int32)) dX4_bears_44 (by decide) ?_
    refine fr_iload_n (pc := 47) O 2 dX4_bears_47 rfl rfl ?_
    refine fr_callVI (pc := 48) (st := []) O (tX4_ticksGo X.2.1 hG  h) mt_X4_ticksGo mv_X4_ticksGo m_945 cl_X4 rfl (sM_0 hG) rfl (by decide) rfl (Nat.le_of_ble_eq_true rfl) dX4_bears_48 (fun r48 σ48 h => ?_)
    refine fr_pop (pc := 51) O dX4_bears_51 rfl ?_
    refine fr_aload_n (pc := 52) O 0 dX4_bears_52 rfl rfl ?_
    refine fr_callVI (pc := 53) (st := []) O (tX4_lackThen X.2.1 hG  h) mt_X4_lackThen mv_X4_lackThen m_953 cl_X4 rfl (sM_0 hG) rfl (by decide) rfl (Nat.le_of_ble_eq_true rfl) dX4_bears_53 (fun r53 σ53 h => ?_)
    refine fr_if_ne (pc := 56) (tgt := 61) O dX4_bears_56 (by decide) (fun c_56 => ?_) (fun c_56 => ?_)
    · have h := h.1 c_56
      refine fr_iinc (pc := 61) O 3 [1, 2, 3, 0] (w := (-1 : Int32)) (lvF := fun y3_61 => [(0, .ref (gad G 0)), (1, .int a1), (2, .int a2), (3, .int y3_61)]) dX4_bears_61 rfl (by decide) (by decide) (fun _ => rfl) (fun y3_61 e_y3_61 => ?_)
      have h := h y3_61 e_y3_61
      refine fr_goto (pc := 64) (tgt := 28) O dX4_bears_64 (by decide) ?_
      exact hk28 _ _ h
    · have h := h.2 c_56
      refine fr_iload_n (pc := 59) O 3 dX4_bears_59 rfl rfl ?_
      exact fr_iret (pc := 60) O dX4_bears_60 h
set_option maxRecDepth 20000 in
theorem kX4_bears_L28w {X : Cx} {G : Gw} (hG : fw_IsM G) (O : fw_Ok X G cX4_bears 4 RX4 4 98 (some .int)) {a1 : Int32} {a2 : Int32} {post : Int32 → Mem → Prop}   {n9 : Nat} {x3 : Int32} {σ : Mem} (h : it1 (qX4_bears_L28 a1 a2 post) n9 x3 σ) : fw_At X G 4 (fw_QI X G post) 28 [(0, .ref (gad G 0)), (1, .int a1), (2, .int a2), (3, .int x3)] [] σ :=
  it1_walk (T := fun x3 σ => fw_At X G 4 (fw_QI X G post) 28 [(0, .ref (gad G 0)), (1, .int a1), (2, .int a2), (3, .int x3)] [] σ) (fun k28 hk28 x3 σ h => kX4_bears_L28 hG O hk28 h) n9 x3 σ h
def qX4_bears (a1 : Int32) (a2 : Int32) (σ : Mem) (post : Int32 → Mem → Prop) : Prop := (qX4_isWheel a1 σ (fun r2 σ2 => ((r2 = 0 → qX4_bears_B15 a1 a2 post σ2) ∧ (¬ r2 = 0 → (qX4_isLong a2 σ2 (fun r9 σ9 => ((¬ r9 = 0 → (qX4_copies (0 : Int32) (195 : Int32) σ9 (fun σ22 => ∃ n9, it1 (qX4_bears_L28 a1 a2 post) n9 (9 : Int32) σ22))) ∧ (r9 = 0 → qX4_bears_B15 a1 a2 post σ9))))))))
set_option maxRecDepth 20000 in
theorem kX4_bears {X : Cx} {G : Gw} (hG : fw_IsM G) (O : fw_Ok X G cX4_bears 4 RX4 4 98 (some .int)) {a1 : Int32} {a2 : Int32}  {σ : Mem} {post : Int32 → Mem → Prop} (h : qX4_bears a1 a2 σ post) : fw_At X G 4 (fw_QI X G post) 0 [(0, .ref (gad G 0)), (1, .int a1), (2, .int a2)] [] σ := by
  unfold qX4_bears at h
  refine fr_aload_n (pc := 0) O 0 dX4_bears_0 rfl rfl ?_
  refine fr_iload_n (pc := 1) O 1 dX4_bears_1 rfl rfl ?_
  refine fr_callVI (pc := 2) (st := []) O (tX4_isWheel X.2.1 hG  h) mt_X4_isWheel mv_X4_isWheel m_857 cl_X4 rfl (sM_0 hG) rfl (by decide) rfl (Nat.le_of_ble_eq_true rfl) dX4_bears_2 (fun r2 σ2 h => ?_)
  refine fr_if_eq (pc := 5) (tgt := 15) O dX4_bears_5 (by decide) (fun c_5 => ?_) (fun c_5 => ?_)
  · have h := h.1 c_5
    exact kX4_bears_B15 hG O  h
  · have h := h.2 c_5
    refine fr_iload_n (pc := 8) O 2 dX4_bears_8 rfl rfl ?_
    refine fr_callSI (pc := 9) (st := []) O (tX4_isLong X.2.1 hG  h) mt_X4_isLong m_941 m_940 rfl (by decide) rfl (Nat.le_of_ble_eq_true rfl) dX4_bears_9 (fun r9 σ9 h => ?_)
    refine fr_if_ne (pc := 12) (tgt := 17) O dX4_bears_12 (by decide) (fun c_12 => ?_) (fun c_12 => ?_)
    · have h := h.1 c_12
      refine fr_aload_n (pc := 17) O 0 dX4_bears_17 rfl rfl ?_
      refine fr_iconst (pc := 18) O (v := (0 : Int32)) dX4_bears_18 (by decide) ?_
      refine fr_sipush (pc := 19) O (v := (195 : Int32)) dX4_bears_19 (by decide) ?_
      refine fr_callVV (pc := 22) (st := []) O (tX4_copies X.2.1 hG  h) mt_X4_copies mv_X4_copies m_949 cl_X4 rfl (sM_0 hG) rfl (by decide) rfl (Nat.le_of_ble_eq_true rfl) dX4_bears_22 (fun σ22 h => ?_)
      refine fr_bipush (pc := 25) O (v := (9 : Int32)) dX4_bears_25 (by decide) ?_
      refine fr_istore_n (pc := 27) O [1, 2, 3, 0] (lv' := [(0, .ref (gad G 0)), (1, .int a1), (2, .int a2), (3, .int (9 : Int32))]) dX4_bears_27 rfl (by decide) rfl ?_
      obtain ⟨n9, h⟩ := h
      exact kX4_bears_L28w hG O  h
    · have h := h.2 c_12
      exact kX4_bears_B15 hG O  h
theorem tX4_bears (l : Launch) {G : Gw} (hG : fw_IsM G) {a1 : Int32} {a2 : Int32}  {σ : Mem} {post : Int32 → Mem → Prop} (h : qX4_bears a1 a2 σ post) : fw_CI l G yX4_bears cX4_bears 4 .int 4 98 [.ref (gad G 0), .int a1, .int a2] σ post := fw_ofI (sok_M hG) (by decide) (Nat.le_of_ble_eq_true rfl) (fun X O => kX4_bears hG O  h)
def qX4_swap_B17 (a1 : Int32) (a2 : Int32) (post : Int32 → Mem → Prop) (σ : Mem) : Prop := post (-1 : Int32) σ
set_option maxRecDepth 20000 in
theorem kX4_swap_B17 {X : Cx} {G : Gw} (hG : fw_IsM G) (O : fw_Ok X G cX4_swap 8 RX4 4 98 (some .int)) {a1 : Int32} {a2 : Int32} {post : Int32 → Mem → Prop}    {σ : Mem} (h : qX4_swap_B17 a1 a2 post σ) : fw_At X G 8 (fw_QI X G post) 17 [(0, .ref (gad G 0)), (1, .int a1), (2, .int a2)] [] σ := by
  unfold qX4_swap_B17 at h
  refine fr_iconst (pc := 17) O (v := (-1 : Int32)) dX4_swap_17 (by decide) ?_
  exact fr_iret (pc := 18) O dX4_swap_18 h
def qX4_swap_B186 (a1 : Int32) (a2 : Int32) (post : Int32 → Mem → Prop) (s0 : Int32) (σ : Mem) : Prop := post s0 σ
set_option maxRecDepth 20000 in
theorem kX4_swap_B186 {X : Cx} {G : Gw} (hG : fw_IsM G) (O : fw_Ok X G cX4_swap 8 RX4 4 98 (some .int)) {a1 : Int32} {a2 : Int32} {post : Int32 → Mem → Prop}   {s0 : Int32} {σ : Mem} (h : qX4_swap_B186 a1 a2 post s0 σ) : fw_At X G 8 (fw_QI X G post) 186 [(0, .ref (gad G 0)), (1, .int a1), (2, .int a2)] [.int s0] σ := by
  unfold qX4_swap_B186 at h
  exact fr_iret (pc := 186) O dX4_swap_186 h
def qX4_swap_B180 (a1 : Int32) (a2 : Int32) (post : Int32 → Mem → Prop) (x4 : Int32) (σ : Mem) : Prop := qX4_swap_B186 a1 a2 post x4 σ
set_option maxRecDepth 20000 in
theorem kX4_swap_B180 {X : Cx} {G : Gw} (hG : fw_IsM G) (O : fw_Ok X G cX4_swap 8 RX4 4 98 (some .int)) {a1 : Int32} {a2 : Int32} {post : Int32 → Mem → Prop}   {x4 : Int32} {σ : Mem} (h : qX4_swap_B180 a1 a2 post x4 σ) : fw_At X G 8 (fw_QI X G post) 180 [(0, .ref (gad G 0)), (1, .int a1), (2, .int a2), (4, .int x4)] [] σ := by
  unfold qX4_swap_B180 at h
  refine fr_iload (pc := 180) O 3 dX4_swap_180 rfl ?_
  refine fr_goto (pc := 182) (tgt := 186) O dX4_swap_182 (by decide) ?_
  refine fw_sub (lv' := [(0, .ref (gad G 0)), (1, .int a1), (2, .int a2)]) [0, 1, 2] rfl ?_
  exact kX4_swap_B186 hG O  h
def qX4_swap_B156 (a1 : Int32) (a2 : Int32) (post : Int32 → Mem → Prop) (k33 : Int32 → Int32 → Int32 → Mem → Prop) (k51 : Int32 → Int32 → Int32 → Int32 → Mem → Prop) (x4 : Int32) (x5 : Int32) (x6 : Int32) (s0 : Int32) (σ : Mem) : Prop := (∀ y6_157 : Int32, y6_157 = x6 + (1 : Int32) → k51 s0 x4 x5 y6_157 σ)
set_option maxRecDepth 20000 in
theorem kX4_swap_B156 {X : Cx} {G : Gw} (hG : fw_IsM G) (O : fw_Ok X G cX4_swap 8 RX4 4 98 (some .int)) {a1 : Int32} {a2 : Int32} {post : Int32 → Mem → Prop} {k33 : Int32 → Int32 → Int32 → Mem → Prop} {k51 : Int32 → Int32 → Int32 → Int32 → Mem → Prop}  (hk33 : ∀ (x3 : Int32) (x4 : Int32) (x5 : Int32) (σ : Mem), k33 x3 x4 x5 σ → fw_At X G 8 (fw_QI X G post) 33 [(0, .ref (gad G 0)), (1, .int a1), (2, .int a2), (3, .int x3), (4, .int x4), (5, .int x5)] [] σ) (hk51 : ∀ (x3 : Int32) (x4 : Int32) (x5 : Int32) (x6 : Int32) (σ : Mem), k51 x3 x4 x5 x6 σ → fw_At X G 8 (fw_QI X G post) 51 [(0, .ref (gad G 0)), (1, .int a1), (2, .int a2), (3, .int x3), (4, .int x4), (5, .int x5), (6, .int x6)] [] σ) {x4 : Int32} {x5 : Int32} {x6 : Int32} {s0 : Int32} {σ : Mem} (h : qX4_swap_B156 a1 a2 post k33 k51 x4 x5 x6 s0 σ) : fw_At X G 8 (fw_QI X G post) 156 [(0, .ref (gad G 0)), (1, .int a1), (2, .int a2), (4, .int x4), (5, .int x5), (6, .int x6)] [.int s0] σ := by
  unfold qX4_swap_B156 at h
  refine fr_istore_n (pc := 156) O [1, 2, 3, 0, 4, 5, 6] (lv' := [(0, .ref (gad G 0)), (1, .int a1), (2, .int a2), (3, .int s0), (4, .int x4), (5, .int x5), (6, .int x6)]) dX4_swap_156 rfl (by decide) rfl ?_
  refine fr_iinc (pc := 157) O 6 [1, 2, 3, 4, 5, 6, 0] (w := (1 : Int32)) (lvF := fun y6_157 => [(0, .ref (gad G 0)), (1, .int a1), (2, .int a2), (3, .int s0), (4, .int x4), (5, .int x5), (6, .int y6_157)]) dX4_swap_157 rfl (by decide) (by decide) (fun _ => rfl) (fun y6_157 e_y6_157 => ?_)
  have h := h y6_157 e_y6_157
  refine fr_goto (pc := 160) (tgt := 51) O dX4_swap_160 (by decide) ?_
  exact hk51 _ _ _ _ _ h
def qX4_swap_B142 (a1 : Int32) (a2 : Int32) (post : Int32 → Mem → Prop) (k33 : Int32 → Int32 → Int32 → Mem → Prop) (k51 : Int32 → Int32 → Int32 → Int32 → Mem → Prop) (x3 : Int32) (x5 : Int32) (x6 : Int32) (x7 : Int32) (s0 : Int32) (σ : Mem) : Prop := ((x7 ≤ x3 → qX4_swap_B156 a1 a2 post k33 k51 s0 x5 x6 x3 σ) ∧ (¬ x7 ≤ x3 → qX4_swap_B156 a1 a2 post k33 k51 s0 x5 x6 x7 σ))
set_option maxRecDepth 20000 in
theorem kX4_swap_B142 {X : Cx} {G : Gw} (hG : fw_IsM G) (O : fw_Ok X G cX4_swap 8 RX4 4 98 (some .int)) {a1 : Int32} {a2 : Int32} {post : Int32 → Mem → Prop} {k33 : Int32 → Int32 → Int32 → Mem → Prop} {k51 : Int32 → Int32 → Int32 → Int32 → Mem → Prop}  (hk33 : ∀ (x3 : Int32) (x4 : Int32) (x5 : Int32) (σ : Mem), k33 x3 x4 x5 σ → fw_At X G 8 (fw_QI X G post) 33 [(0, .ref (gad G 0)), (1, .int a1), (2, .int a2), (3, .int x3), (4, .int x4), (5, .int x5)] [] σ) (hk51 : ∀ (x3 : Int32) (x4 : Int32) (x5 : Int32) (x6 : Int32) (σ : Mem), k51 x3 x4 x5 x6 σ → fw_At X G 8 (fw_QI X G post) 51 [(0, .ref (gad G 0)), (1, .int a1), (2, .int a2), (3, .int x3), (4, .int x4), (5, .int x5), (6, .int x6)] [] σ) {x3 : Int32} {x5 : Int32} {x6 : Int32} {x7 : Int32} {s0 : Int32} {σ : Mem} (h : qX4_swap_B142 a1 a2 post k33 k51 x3 x5 x6 x7 s0 σ) : fw_At X G 8 (fw_QI X G post) 142 [(0, .ref (gad G 0)), (1, .int a1), (2, .int a2), (3, .int x3), (5, .int x5), (6, .int x6), (7, .int x7)] [.int s0] σ := by
  unfold qX4_swap_B142 at h
  refine fr_istore (pc := 142) O [1, 2, 3, 4, 0, 5, 6, 7] (lv' := [(0, .ref (gad G 0)), (1, .int a1), (2, .int a2), (3, .int x3), (4, .int s0), (5, .int x5), (6, .int x6), (7, .int x7)]) dX4_swap_142 (by decide) rfl ?_
  refine fr_iload (pc := 144) O 7 dX4_swap_144 rfl ?_
  refine fr_iload_n (pc := 146) O 3 dX4_swap_146 rfl rfl ?_
  refine fr_icmp_le (pc := 147) (tgt := 155) O dX4_swap_147 (by decide) (fun c_147 => ?_) (fun c_147 => ?_)
  · have h := h.1 c_147
    refine fr_iload_n (pc := 155) O 3 dX4_swap_155 rfl rfl ?_
    refine fw_sub (lv' := [(0, .ref (gad G 0)), (1, .int a1), (2, .int a2), (4, .int s0), (5, .int x5), (6, .int x6)]) [0, 1, 2, 4, 5, 6] rfl ?_
    exact kX4_swap_B156 hG O hk33 hk51 h
  · have h := h.2 c_147
    refine fr_iload (pc := 150) O 7 dX4_swap_150 rfl ?_
    refine fr_goto (pc := 152) (tgt := 156) O dX4_swap_152 (by decide) ?_
    refine fw_sub (lv' := [(0, .ref (gad G 0)), (1, .int a1), (2, .int a2), (4, .int s0), (5, .int x5), (6, .int x6)]) [0, 1, 2, 4, 5, 6] rfl ?_
    exact kX4_swap_B156 hG O hk33 hk51 h
def qX4_swap_L51 (a1 : Int32) (a2 : Int32) (post : Int32 → Mem → Prop) (k33 : Int32 → Int32 → Int32 → Mem → Prop) (k51 : Int32 → Int32 → Int32 → Int32 → Mem → Prop) (x3 : Int32) (x4 : Int32) (x5 : Int32) (x6 : Int32) (σ : Mem) : Prop := (vp_in (33 : Int32) 234 ∧ (((σ 1 (33 : Int32).toNatClampNeg) ≤ x6 → (∀ y5_163 : Int32, y5_163 = x5 + (1 : Int32) → k33 x3 x4 y5_163 σ)) ∧ (¬ (σ 1 (33 : Int32).toNatClampNeg) ≤ x6 → (qX4_copies (0 : Int32) (195 : Int32) σ (fun σ68 => (vp_in ((17 : Int32) + x6) 234 ∧ (vp_in ((212 : Int32) + x5) 234 ∧ (∀ σ91 : Mem, σ91 = up2 σ68 1 ((212 : Int32) + x5).toNatClampNeg (σ68 1 ((17 : Int32) + x6).toNatClampNeg) → (vp_in ((17 : Int32) + x5) 234 ∧ (vp_in ((212 : Int32) + x6) 234 ∧ (∀ σ112 : Mem, σ112 = up2 σ91 1 ((212 : Int32) + x6).toNatClampNeg (σ91 1 ((17 : Int32) + x5).toNatClampNeg) → (qX4_ticksGo (195 : Int32) a1 σ112 (fun r118 σ118 => ((r118 ≤ x3 → qX4_swap_B142 a1 a2 post k33 k51 x3 x5 x6 r118 x4 σ118) ∧ (¬ r118 ≤ x3 → qX4_swap_B142 a1 a2 post k33 k51 x3 x5 x6 r118 (((100 : Int32) * x5) + x6) σ118)))))))))))))))
set_option maxRecDepth 20000 in
theorem kX4_swap_L51 {X : Cx} {G : Gw} (hG : fw_IsM G) (O : fw_Ok X G cX4_swap 8 RX4 4 98 (some .int)) {a1 : Int32} {a2 : Int32} {post : Int32 → Mem → Prop} {k33 : Int32 → Int32 → Int32 → Mem → Prop} {k51 : Int32 → Int32 → Int32 → Int32 → Mem → Prop}  (hk33 : ∀ (x3 : Int32) (x4 : Int32) (x5 : Int32) (σ : Mem), k33 x3 x4 x5 σ → fw_At X G 8 (fw_QI X G post) 33 [(0, .ref (gad G 0)), (1, .int a1), (2, .int a2), (3, .int x3), (4, .int x4), (5, .int x5)] [] σ) (hk51 : ∀ (x3 : Int32) (x4 : Int32) (x5 : Int32) (x6 : Int32) (σ : Mem), k51 x3 x4 x5 x6 σ → fw_At X G 8 (fw_QI X G post) 51 [(0, .ref (gad G 0)), (1, .int a1), (2, .int a2), (3, .int x3), (4, .int x4), (5, .int x5), (6, .int x6)] [] σ) {x3 : Int32} {x4 : Int32} {x5 : Int32} {x6 : Int32} {σ : Mem} (h : qX4_swap_L51 a1 a2 post k33 k51 x3 x4 x5 x6 σ) : fw_At X G 8 (fw_QI X G post) 51 [(0, .ref (gad G 0)), (1, .int a1), (2, .int a2), (3, .int x3), (4, .int x4), (5, .int x5), (6, .int x6)] [] σ := by
  unfold qX4_swap_L51 at h
  refine fr_iload (pc := 51) O 6 dX4_swap_51 rfl ?_
  refine fr_aload_n (pc := 53) O 0 dX4_swap_53 rfl rfl ?_
  refine fr_get (pc := 54) (k := 0) (v := .ref (gad G 1)) O cl_X4 m_713 (sM_0 hG) (by decide) rfl rfl dX4_swap_54 ?_
  refine fr_bipush (pc := 57) O (v := (33 : Int32)) dX4_swap_57 (by decide) ?_
  have hi_59 := h.1
  have h := h.2
  refine fr_iald (pc := 59) O (sM_1 hG) hi_59 dX4_swap_59 ?_
  refine fr_icmp_ge (pc := 60) (tgt := 163) O dX4_swap_60 (by decide) (fun c_60 => ?_) (fun c_60 => ?_)
  · have h := h.1 c_60
    refine fr_iinc (pc := 163) O 5 [1, 2, 3, 4, 5, 0, 6] (w := (1 : Int32)) (lvF := fun y5_163 => [(0, .ref (gad G 0)), (1, .int a1), (2, .int a2), (3, .int x3), (4, .int x4), (5, .int y5_163), (6, .int x6)]) dX4_swap_163 rfl (by decide) (by decide) (fun _ => rfl) (fun y5_163 e_y5_163 => ?_)
    have h := h y5_163 e_y5_163
    refine fr_goto (pc := 166) (tgt := 33) O dX4_swap_166 (by decide) ?_
    refine fw_sub (lv' := [(0, .ref (gad G 0)), (1, .int a1), (2, .int a2), (3, .int x3), (4, .int x4), (5, .int y5_163)]) [0, 1, 2, 3, 4, 5] rfl ?_
    exact hk33 _ _ _ _ h
  · have h := h.2 c_60
    refine fr_aload_n (pc := 63) O 0 dX4_swap_63 rfl rfl ?_
    refine fr_iconst (pc := 64) O (v := (0 : Int32)) dX4_swap_64 (by decide) ?_
    refine fr_sipush (pc := 65) O (v := (195 : Int32)) dX4_swap_65 (by decide) ?_
    refine fr_callVV (pc := 68) (st := []) O (tX4_copies X.2.1 hG  h) mt_X4_copies mv_X4_copies m_949 cl_X4 rfl (sM_0 hG) rfl (by decide) rfl (Nat.le_of_ble_eq_true rfl) dX4_swap_68 (fun σ68 h => ?_)
    refine fr_aload_n (pc := 71) O 0 dX4_swap_71 rfl rfl ?_
    refine fr_get (pc := 72) (k := 0) (v := .ref (gad G 1)) O cl_X4 m_713 (sM_0 hG) (by decide) rfl rfl dX4_swap_72 ?_
    refine fr_sipush (pc := 75) O (v := (212 : Int32)) dX4_swap_75 (by decide) ?_
    refine fr_iload (pc := 78) O 5 dX4_swap_78 rfl ?_
    refine fr_iadd (pc := 80) O dX4_swap_80 ?_
    refine fr_aload_n (pc := 81) O 0 dX4_swap_81 rfl rfl ?_
    refine fr_get (pc := 82) (k := 0) (v := .ref (gad G 1)) O cl_X4 m_713 (sM_0 hG) (by decide) rfl rfl dX4_swap_82 ?_
    refine fr_bipush (pc := 85) O (v := (17 : Int32)) dX4_swap_85 (by decide) ?_
    refine fr_iload (pc := 87) O 6 dX4_swap_87 rfl ?_
    refine fr_iadd (pc := 89) O dX4_swap_89 ?_
    have hi_90 := h.1
    have h := h.2
    refine fr_iald (pc := 90) O (sM_1 hG) hi_90 dX4_swap_90 ?_
    have hi_91 := h.1
    have h := h.2
    refine fr_iast (pc := 91) O (sM_1 hG) hi_91 dX4_swap_91 (fun σ91 e_σ91 => ?_)
    have h := h σ91 e_σ91
    refine fr_aload_n (pc := 92) O 0 dX4_swap_92 rfl rfl ?_
    refine fr_get (pc := 93) (k := 0) (v := .ref (gad G 1)) O cl_X4 m_713 (sM_0 hG) (by decide) rfl rfl dX4_swap_93 ?_
    refine fr_sipush (pc := 96) O (v := (212 : Int32)) dX4_swap_96 (by decide) ?_
    refine fr_iload (pc := 99) O 6 dX4_swap_99 rfl ?_
    refine fr_iadd (pc := 101) O dX4_swap_101 ?_
    refine fr_aload_n (pc := 102) O 0 dX4_swap_102 rfl rfl ?_
    refine fr_get (pc := 103) (k := 0) (v := .ref (gad G 1)) O cl_X4 m_713 (sM_0 hG) (by decide) rfl rfl dX4_swap_103 ?_
    refine fr_bipush (pc := 106) O (v := (17 : Int32)) dX4_swap_106 (by decide) ?_
    refine fr_iload (pc := 108) O 5 dX4_swap_108 rfl ?_
    refine fr_iadd (pc := 110) O dX4_swap_110 ?_
    have hi_111 := h.1
    have h := h.2
    refine fr_iald (pc := 111) O (sM_1 hG) hi_111 dX4_swap_111 ?_
    have hi_112 := h.1
    have h := h.2
    refine fr_iast (pc := 112) O (sM_1 hG) hi_112 dX4_swap_112 (fun σ112 e_σ112 => ?_)
    have h := h σ112 e_σ112
    refine fr_aload_n (pc := 113) O 0 dX4_swap_113 rfl rfl ?_
    refine fr_sipush (pc := 114) O (v := (195 : Int32)) dX4_swap_114 (by decide) ?_
    refine fr_iload_n (pc := 117) O 1 dX4_swap_117 rfl rfl ?_
    refine fr_callVI (pc := 118) (st := []) O (tX4_ticksGo X.2.1 hG  h) mt_X4_ticksGo mv_X4_ticksGo m_945 cl_X4 rfl (sM_0 hG) rfl (by decide) rfl (Nat.le_of_ble_eq_true rfl) dX4_swap_118 (fun r118 σ118 h => ?_)
    refine fr_istore (pc := 121) O [1, 2, 3, 4, 5, 6, 7, 0] (lv' := [(0, .ref (gad G 0)), (1, .int a1), (2, .int a2), (3, .int x3), (4, .int x4), (5, .int x5), (6, .int x6), (7, .int r118)]) dX4_swap_121 (by decide) rfl ?_
    refine fr_iload (pc := 123) O 7 dX4_swap_123 rfl ?_
    refine fr_iload_n (pc := 125) O 3 dX4_swap_125 rfl rfl ?_
    refine fr_icmp_le (pc := 126) (tgt := 140) O dX4_swap_126 (by decide) (fun c_126 => ?_) (fun c_126 => ?_)
    · have h := h.1 c_126
      refine fr_iload (pc := 140) O 4 dX4_swap_140 rfl ?_
      refine fw_sub (lv' := [(0, .ref (gad G 0)), (1, .int a1), (2, .int a2), (3, .int x3), (5, .int x5), (6, .int x6), (7, .int r118)]) [0, 1, 2, 3, 5, 6, 7] rfl ?_
      exact kX4_swap_B142 hG O hk33 hk51 h
    · have h := h.2 c_126
      refine fr_bipush (pc := 129) O (v := (100 : Int32)) dX4_swap_129 (by decide) ?_
      refine fr_iload (pc := 131) O 5 dX4_swap_131 rfl ?_
      refine fr_imul (pc := 133) O dX4_swap_133 ?_
      refine fr_iload (pc := 134) O 6 dX4_swap_134 rfl ?_
      refine fr_iadd (pc := 136) O dX4_swap_136 ?_
      refine fr_goto (pc := 137) (tgt := 142) O dX4_swap_137 (by decide) ?_
      refine fw_sub (lv' := [(0, .ref (gad G 0)), (1, .int a1), (2, .int a2), (3, .int x3), (5, .int x5), (6, .int x6), (7, .int r118)]) [0, 1, 2, 3, 5, 6, 7] rfl ?_
      exact kX4_swap_B142 hG O hk33 hk51 h
set_option maxRecDepth 20000 in
theorem kX4_swap_L51w {X : Cx} {G : Gw} (hG : fw_IsM G) (O : fw_Ok X G cX4_swap 8 RX4 4 98 (some .int)) {a1 : Int32} {a2 : Int32} {post : Int32 → Mem → Prop} {k33 : Int32 → Int32 → Int32 → Mem → Prop}  (hk33 : ∀ (x3 : Int32) (x4 : Int32) (x5 : Int32) (σ : Mem), k33 x3 x4 x5 σ → fw_At X G 8 (fw_QI X G post) 33 [(0, .ref (gad G 0)), (1, .int a1), (2, .int a2), (3, .int x3), (4, .int x4), (5, .int x5)] [] σ) {n9 : Nat} {x3 : Int32} {x4 : Int32} {x5 : Int32} {x6 : Int32} {σ : Mem} (h : it4 (qX4_swap_L51 a1 a2 post k33) n9 x3 x4 x5 x6 σ) : fw_At X G 8 (fw_QI X G post) 51 [(0, .ref (gad G 0)), (1, .int a1), (2, .int a2), (3, .int x3), (4, .int x4), (5, .int x5), (6, .int x6)] [] σ :=
  it4_walk (T := fun x3 x4 x5 x6 σ => fw_At X G 8 (fw_QI X G post) 51 [(0, .ref (gad G 0)), (1, .int a1), (2, .int a2), (3, .int x3), (4, .int x4), (5, .int x5), (6, .int x6)] [] σ) (fun k51 hk51 x3 x4 x5 x6 σ h => kX4_swap_L51 hG O hk33 hk51 h) n9 x3 x4 x5 x6 σ h
def qX4_swap_L33 (a1 : Int32) (a2 : Int32) (post : Int32 → Mem → Prop) (k33 : Int32 → Int32 → Int32 → Mem → Prop) (x3 : Int32) (x4 : Int32) (x5 : Int32) (σ : Mem) : Prop := (vp_in (33 : Int32) 234 ∧ (((σ 1 (33 : Int32).toNatClampNeg) ≤ x5 → ((x4 = (-4 : Int32) → qX4_swap_B180 a1 a2 post x4 σ) ∧ (¬ x4 = (-4 : Int32) → ((¬ a2 = 0 → qX4_swap_B186 a1 a2 post x3 σ) ∧ (a2 = 0 → qX4_swap_B180 a1 a2 post x4 σ))))) ∧ (¬ (σ 1 (33 : Int32).toNatClampNeg) ≤ x5 → (∀ y6_49 : Int32, y6_49 = x5 + (1 : Int32) → ∃ n9, it4 (qX4_swap_L51 a1 a2 post k33) n9 x3 x4 x5 y6_49 σ))))
set_option maxRecDepth 20000 in
theorem kX4_swap_L33 {X : Cx} {G : Gw} (hG : fw_IsM G) (O : fw_Ok X G cX4_swap 8 RX4 4 98 (some .int)) {a1 : Int32} {a2 : Int32} {post : Int32 → Mem → Prop} {k33 : Int32 → Int32 → Int32 → Mem → Prop}  (hk33 : ∀ (x3 : Int32) (x4 : Int32) (x5 : Int32) (σ : Mem), k33 x3 x4 x5 σ → fw_At X G 8 (fw_QI X G post) 33 [(0, .ref (gad G 0)), (1, .int a1), (2, .int a2), (3, .int x3), (4, .int x4), (5, .int x5)] [] σ) {x3 : Int32} {x4 : Int32} {x5 : Int32} {σ : Mem} (h : qX4_swap_L33 a1 a2 post k33 x3 x4 x5 σ) : fw_At X G 8 (fw_QI X G post) 33 [(0, .ref (gad G 0)), (1, .int a1), (2, .int a2), (3, .int x3), (4, .int x4), (5, .int x5)] [] σ := by
  unfold qX4_swap_L33 at h
  refine fr_iload (pc := 33) O 5 dX4_swap_33 rfl ?_
  refine fr_aload_n (pc := 35) O 0 dX4_swap_35 rfl rfl ?_
  refine fr_get (pc := 36) (k := 0) (v := .ref (gad G 1)) O cl_X4 m_713 (sM_0 hG) (by decide) rfl rfl dX4_swap_36 ?_
  refine fr_bipush (pc := 39) O (v := (33 : Int32)) dX4_swap_39 (by decide) ?_
  have hi_41 := h.1
  have h := h.2
  refine fr_iald (pc := 41) O (sM_1 hG) hi_41 dX4_swap_41 ?_
  refine fr_icmp_ge (pc := 42) (tgt := 169) O dX4_swap_42 (by decide) (fun c_42 => ?_) (fun c_42 => ?_)
  · have h := h.1 c_42
    refine fr_iload (pc := 169) O 4 dX4_swap_169 rfl ?_
    refine fr_bipush (pc := 171) O (v := (-4 : Int32)) dX4_swap_171 (by decide) ?_
    refine fr_icmp_eq (pc := 173) (tgt := 180) O dX4_swap_173 (by decide) (fun c_173 => ?_) (fun c_173 => ?_)
    · have h := h.1 c_173
      refine fw_sub (lv' := [(0, .ref (gad G 0)), (1, .int a1), (2, .int a2), (4, .int x4)]) [0, 1, 2, 4] rfl ?_
      exact kX4_swap_B180 hG O  h
    · have h := h.2 c_173
      refine fr_iload_n (pc := 176) O 2 dX4_swap_176 rfl rfl ?_
      refine fr_if_ne (pc := 177) (tgt := 185) O dX4_swap_177 (by decide) (fun c_177 => ?_) (fun c_177 => ?_)
      · have h := h.1 c_177
        refine fr_iload_n (pc := 185) O 3 dX4_swap_185 rfl rfl ?_
        refine fw_sub (lv' := [(0, .ref (gad G 0)), (1, .int a1), (2, .int a2)]) [0, 1, 2] rfl ?_
        exact kX4_swap_B186 hG O  h
      · have h := h.2 c_177
        refine fw_sub (lv' := [(0, .ref (gad G 0)), (1, .int a1), (2, .int a2), (4, .int x4)]) [0, 1, 2, 4] rfl ?_
        exact kX4_swap_B180 hG O  h
  · have h := h.2 c_42
    refine fr_iload (pc := 45) O 5 dX4_swap_45 rfl ?_
    refine fr_iconst (pc := 47) O (v := (1 : Int32)) dX4_swap_47 (by decide) ?_
    refine fr_iadd (pc := 48) O dX4_swap_48 ?_
    refine fr_nm (fun y6_49 e_y6_49 => ?_)
    have h := h y6_49 e_y6_49
    refine fr_istore (pc := 49) O [1, 2, 3, 4, 5, 6, 0] (lv' := [(0, .ref (gad G 0)), (1, .int a1), (2, .int a2), (3, .int x3), (4, .int x4), (5, .int x5), (6, .int y6_49)]) dX4_swap_49 (by decide) rfl ?_
    obtain ⟨n9, h⟩ := h
    exact kX4_swap_L51w hG O hk33 h
set_option maxRecDepth 20000 in
theorem kX4_swap_L33w {X : Cx} {G : Gw} (hG : fw_IsM G) (O : fw_Ok X G cX4_swap 8 RX4 4 98 (some .int)) {a1 : Int32} {a2 : Int32} {post : Int32 → Mem → Prop}   {n9 : Nat} {x3 : Int32} {x4 : Int32} {x5 : Int32} {σ : Mem} (h : it3 (qX4_swap_L33 a1 a2 post) n9 x3 x4 x5 σ) : fw_At X G 8 (fw_QI X G post) 33 [(0, .ref (gad G 0)), (1, .int a1), (2, .int a2), (3, .int x3), (4, .int x4), (5, .int x5)] [] σ :=
  it3_walk (T := fun x3 x4 x5 σ => fw_At X G 8 (fw_QI X G post) 33 [(0, .ref (gad G 0)), (1, .int a1), (2, .int a2), (3, .int x3), (4, .int x4), (5, .int x5)] [] σ) (fun k33 hk33 x3 x4 x5 σ h => kX4_swap_L33 hG O hk33 h) n9 x3 x4 x5 σ h
def qX4_swap (a1 : Int32) (a2 : Int32) (σ : Mem) (post : Int32 → Mem → Prop) : Prop := (qX4_isLong a1 σ (fun r1 σ1 => ((r1 = 0 → qX4_swap_B17 a1 a2 post σ1) ∧ (¬ r1 = 0 → (qX4_in a2.toInt64 (0 : Int64) (1 : Int64) σ1 (fun r11 σ11 => ((¬ r11 = 0 → (qX4_ticksGo (0 : Int32) a1 σ11 (fun r22 σ22 => ∃ n9, it3 (qX4_swap_L33 a1 a2 post) n9 r22 (-4 : Int32) (0 : Int32) σ22))) ∧ (r11 = 0 → qX4_swap_B17 a1 a2 post σ11))))))))
set_option maxRecDepth 20000 in
theorem kX4_swap {X : Cx} {G : Gw} (hG : fw_IsM G) (O : fw_Ok X G cX4_swap 8 RX4 4 98 (some .int)) {a1 : Int32} {a2 : Int32}  {σ : Mem} {post : Int32 → Mem → Prop} (h : qX4_swap a1 a2 σ post) : fw_At X G 8 (fw_QI X G post) 0 [(0, .ref (gad G 0)), (1, .int a1), (2, .int a2)] [] σ := by
  unfold qX4_swap at h
  refine fr_iload_n (pc := 0) O 1 dX4_swap_0 rfl rfl ?_
  refine fr_callSI (pc := 1) (st := []) O (tX4_isLong X.2.1 hG  h) mt_X4_isLong m_941 m_940 rfl (by decide) rfl (Nat.le_of_ble_eq_true rfl) dX4_swap_1 (fun r1 σ1 h => ?_)
  refine fr_if_eq (pc := 4) (tgt := 17) O dX4_swap_4 (by decide) (fun c_4 => ?_) (fun c_4 => ?_)
  · have h := h.1 c_4
    exact kX4_swap_B17 hG O  h
  · have h := h.2 c_4
    refine fr_iload_n (pc := 7) O 2 dX4_swap_7 rfl rfl ?_
    refine fr_i2l (pc := 8) O dX4_swap_8 ?_
    refine fr_lconst (pc := 9) O (v := (0 : Int64)) dX4_swap_9 (by decide) ?_
    refine fr_lconst (pc := 10) O (v := (1 : Int64)) dX4_swap_10 (by decide) ?_
    refine fr_callSI (pc := 11) (st := []) O (tX4_in X.2.1 hG  h) mt_X4_in m_798 m_797 rfl (by decide) rfl (Nat.le_of_ble_eq_true rfl) dX4_swap_11 (fun r11 σ11 h => ?_)
    refine fr_if_ne (pc := 14) (tgt := 19) O dX4_swap_14 (by decide) (fun c_14 => ?_) (fun c_14 => ?_)
    · have h := h.1 c_14
      refine fr_aload_n (pc := 19) O 0 dX4_swap_19 rfl rfl ?_
      refine fr_iconst (pc := 20) O (v := (0 : Int32)) dX4_swap_20 (by decide) ?_
      refine fr_iload_n (pc := 21) O 1 dX4_swap_21 rfl rfl ?_
      refine fr_callVI (pc := 22) (st := []) O (tX4_ticksGo X.2.1 hG  h) mt_X4_ticksGo mv_X4_ticksGo m_945 cl_X4 rfl (sM_0 hG) rfl (by decide) rfl (Nat.le_of_ble_eq_true rfl) dX4_swap_22 (fun r22 σ22 h => ?_)
      refine fr_istore_n (pc := 25) O [1, 2, 3, 0] (lv' := [(0, .ref (gad G 0)), (1, .int a1), (2, .int a2), (3, .int r22)]) dX4_swap_25 rfl (by decide) rfl ?_
      refine fr_bipush (pc := 26) O (v := (-4 : Int32)) dX4_swap_26 (by decide) ?_
      refine fr_istore (pc := 28) O [1, 2, 3, 4, 0] (lv' := [(0, .ref (gad G 0)), (1, .int a1), (2, .int a2), (3, .int r22), (4, .int (-4 : Int32))]) dX4_swap_28 (by decide) rfl ?_
      refine fr_iconst (pc := 30) O (v := (0 : Int32)) dX4_swap_30 (by decide) ?_
      refine fr_istore (pc := 31) O [1, 2, 3, 4, 5, 0] (lv' := [(0, .ref (gad G 0)), (1, .int a1), (2, .int a2), (3, .int r22), (4, .int (-4 : Int32)), (5, .int (0 : Int32))]) dX4_swap_31 (by decide) rfl ?_
      obtain ⟨n9, h⟩ := h
      exact kX4_swap_L33w hG O  h
    · have h := h.2 c_14
      exact kX4_swap_B17 hG O  h
theorem tX4_swap (l : Launch) {G : Gw} (hG : fw_IsM G) {a1 : Int32} {a2 : Int32}  {σ : Mem} {post : Int32 → Mem → Prop} (h : qX4_swap a1 a2 σ post) : fw_CI l G yX4_swap cX4_swap 8 .int 4 98 [.ref (gad G 0), .int a1, .int a2] σ post := fw_ofI (sok_M hG) (by decide) (Nat.le_of_ble_eq_true rfl) (fun X O => kX4_swap hG O  h)
def qX4_omit_B17 (a1 : Int32) (a2 : Int32) (post : Int32 → Mem → Prop) (σ : Mem) : Prop := post (-1 : Int32) σ
set_option maxRecDepth 20000 in
theorem kX4_omit_B17 {X : Cx} {G : Gw} (hG : fw_IsM G) (O : fw_Ok X G cX4_omit 7 RX4 4 98 (some .int)) {a1 : Int32} {a2 : Int32} {post : Int32 → Mem → Prop}    {σ : Mem} (h : qX4_omit_B17 a1 a2 post σ) : fw_At X G 7 (fw_QI X G post) 17 [(0, .ref (gad G 0)), (1, .int a1), (2, .int a2)] [] σ := by
  unfold qX4_omit_B17 at h
  refine fr_iconst (pc := 17) O (v := (-1 : Int32)) dX4_omit_17 (by decide) ?_
  exact fr_iret (pc := 18) O dX4_omit_18 h
def qX4_omit_B116 (a1 : Int32) (a2 : Int32) (post : Int32 → Mem → Prop) (s0 : Int32) (σ : Mem) : Prop := post s0 σ
set_option maxRecDepth 20000 in
theorem kX4_omit_B116 {X : Cx} {G : Gw} (hG : fw_IsM G) (O : fw_Ok X G cX4_omit 7 RX4 4 98 (some .int)) {a1 : Int32} {a2 : Int32} {post : Int32 → Mem → Prop}   {s0 : Int32} {σ : Mem} (h : qX4_omit_B116 a1 a2 post s0 σ) : fw_At X G 7 (fw_QI X G post) 116 [(0, .ref (gad G 0)), (1, .int a1), (2, .int a2)] [.int s0] σ := by
  unfold qX4_omit_B116 at h
  exact fr_iret (pc := 116) O dX4_omit_116 h
def qX4_omit_B110 (a1 : Int32) (a2 : Int32) (post : Int32 → Mem → Prop) (x4 : Int32) (σ : Mem) : Prop := qX4_omit_B116 a1 a2 post x4 σ
set_option maxRecDepth 20000 in
theorem kX4_omit_B110 {X : Cx} {G : Gw} (hG : fw_IsM G) (O : fw_Ok X G cX4_omit 7 RX4 4 98 (some .int)) {a1 : Int32} {a2 : Int32} {post : Int32 → Mem → Prop}   {x4 : Int32} {σ : Mem} (h : qX4_omit_B110 a1 a2 post x4 σ) : fw_At X G 7 (fw_QI X G post) 110 [(0, .ref (gad G 0)), (1, .int a1), (2, .int a2), (4, .int x4)] [] σ := by
  unfold qX4_omit_B110 at h
  refine fr_iload (pc := 110) O 3 dX4_omit_110 rfl ?_
  refine fr_goto (pc := 112) (tgt := 116) O dX4_omit_112 (by decide) ?_
  refine fw_sub (lv' := [(0, .ref (gad G 0)), (1, .int a1), (2, .int a2)]) [0, 1, 2] rfl ?_
  exact kX4_omit_B116 hG O  h
def qX4_omit_B92 (a1 : Int32) (a2 : Int32) (post : Int32 → Mem → Prop) (k33 : Int32 → Int32 → Int32 → Mem → Prop) (x4 : Int32) (x5 : Int32) (s0 : Int32) (σ : Mem) : Prop := (∀ y5_93 : Int32, y5_93 = x5 + (1 : Int32) → k33 s0 x4 y5_93 σ)
set_option maxRecDepth 20000 in
theorem kX4_omit_B92 {X : Cx} {G : Gw} (hG : fw_IsM G) (O : fw_Ok X G cX4_omit 7 RX4 4 98 (some .int)) {a1 : Int32} {a2 : Int32} {post : Int32 → Mem → Prop} {k33 : Int32 → Int32 → Int32 → Mem → Prop}  (hk33 : ∀ (x3 : Int32) (x4 : Int32) (x5 : Int32) (σ : Mem), k33 x3 x4 x5 σ → fw_At X G 7 (fw_QI X G post) 33 [(0, .ref (gad G 0)), (1, .int a1), (2, .int a2), (3, .int x3), (4, .int x4), (5, .int x5)] [] σ) {x4 : Int32} {x5 : Int32} {s0 : Int32} {σ : Mem} (h : qX4_omit_B92 a1 a2 post k33 x4 x5 s0 σ) : fw_At X G 7 (fw_QI X G post) 92 [(0, .ref (gad G 0)), (1, .int a1), (2, .int a2), (4, .int x4), (5, .int x5)] [.int s0] σ := by
  unfold qX4_omit_B92 at h
  refine fr_istore_n (pc := 92) O [1, 2, 3, 0, 4, 5] (lv' := [(0, .ref (gad G 0)), (1, .int a1), (2, .int a2), (3, .int s0), (4, .int x4), (5, .int x5)]) dX4_omit_92 rfl (by decide) rfl ?_
  refine fr_iinc (pc := 93) O 5 [1, 2, 3, 4, 5, 0] (w := (1 : Int32)) (lvF := fun y5_93 => [(0, .ref (gad G 0)), (1, .int a1), (2, .int a2), (3, .int s0), (4, .int x4), (5, .int y5_93)]) dX4_omit_93 rfl (by decide) (by decide) (fun _ => rfl) (fun y5_93 e_y5_93 => ?_)
  have h := h y5_93 e_y5_93
  refine fr_goto (pc := 96) (tgt := 33) O dX4_omit_96 (by decide) ?_
  exact hk33 _ _ _ _ h
def qX4_omit_B78 (a1 : Int32) (a2 : Int32) (post : Int32 → Mem → Prop) (k33 : Int32 → Int32 → Int32 → Mem → Prop) (x3 : Int32) (x5 : Int32) (x6 : Int32) (s0 : Int32) (σ : Mem) : Prop := ((x6 ≤ x3 → qX4_omit_B92 a1 a2 post k33 s0 x5 x3 σ) ∧ (¬ x6 ≤ x3 → qX4_omit_B92 a1 a2 post k33 s0 x5 x6 σ))
set_option maxRecDepth 20000 in
theorem kX4_omit_B78 {X : Cx} {G : Gw} (hG : fw_IsM G) (O : fw_Ok X G cX4_omit 7 RX4 4 98 (some .int)) {a1 : Int32} {a2 : Int32} {post : Int32 → Mem → Prop} {k33 : Int32 → Int32 → Int32 → Mem → Prop}  (hk33 : ∀ (x3 : Int32) (x4 : Int32) (x5 : Int32) (σ : Mem), k33 x3 x4 x5 σ → fw_At X G 7 (fw_QI X G post) 33 [(0, .ref (gad G 0)), (1, .int a1), (2, .int a2), (3, .int x3), (4, .int x4), (5, .int x5)] [] σ) {x3 : Int32} {x5 : Int32} {x6 : Int32} {s0 : Int32} {σ : Mem} (h : qX4_omit_B78 a1 a2 post k33 x3 x5 x6 s0 σ) : fw_At X G 7 (fw_QI X G post) 78 [(0, .ref (gad G 0)), (1, .int a1), (2, .int a2), (3, .int x3), (5, .int x5), (6, .int x6)] [.int s0] σ := by
  unfold qX4_omit_B78 at h
  refine fr_istore (pc := 78) O [1, 2, 3, 4, 0, 5, 6] (lv' := [(0, .ref (gad G 0)), (1, .int a1), (2, .int a2), (3, .int x3), (4, .int s0), (5, .int x5), (6, .int x6)]) dX4_omit_78 (by decide) rfl ?_
  refine fr_iload (pc := 80) O 6 dX4_omit_80 rfl ?_
  refine fr_iload_n (pc := 82) O 3 dX4_omit_82 rfl rfl ?_
  refine fr_icmp_le (pc := 83) (tgt := 91) O dX4_omit_83 (by decide) (fun c_83 => ?_) (fun c_83 => ?_)
  · have h := h.1 c_83
    refine fr_iload_n (pc := 91) O 3 dX4_omit_91 rfl rfl ?_
    refine fw_sub (lv' := [(0, .ref (gad G 0)), (1, .int a1), (2, .int a2), (4, .int s0), (5, .int x5)]) [0, 1, 2, 4, 5] rfl ?_
    exact kX4_omit_B92 hG O hk33 h
  · have h := h.2 c_83
    refine fr_iload (pc := 86) O 6 dX4_omit_86 rfl ?_
    refine fr_goto (pc := 88) (tgt := 92) O dX4_omit_88 (by decide) ?_
    refine fw_sub (lv' := [(0, .ref (gad G 0)), (1, .int a1), (2, .int a2), (4, .int s0), (5, .int x5)]) [0, 1, 2, 4, 5] rfl ?_
    exact kX4_omit_B92 hG O hk33 h
def qX4_omit_L33 (a1 : Int32) (a2 : Int32) (post : Int32 → Mem → Prop) (k33 : Int32 → Int32 → Int32 → Mem → Prop) (x3 : Int32) (x4 : Int32) (x5 : Int32) (σ : Mem) : Prop := (vp_in (33 : Int32) 234 ∧ (((σ 1 (33 : Int32).toNatClampNeg) ≤ x5 → ((x4 = (-4 : Int32) → qX4_omit_B110 a1 a2 post x4 σ) ∧ (¬ x4 = (-4 : Int32) → ((¬ a2 = 0 → qX4_omit_B116 a1 a2 post x3 σ) ∧ (a2 = 0 → qX4_omit_B110 a1 a2 post x4 σ))))) ∧ (¬ (σ 1 (33 : Int32).toNatClampNeg) ≤ x5 → (∀ σ48 : Mem, σ48 = up2 σ 0 15 x5 → (qX4_ticksGo (0 : Int32) a1 σ48 (fun r54 σ54 => (∀ σ62 : Mem, σ62 = up2 σ54 0 15 (-4 : Int32) → ((r54 ≤ x3 → qX4_omit_B78 a1 a2 post k33 x3 x5 r54 x4 σ62) ∧ (¬ r54 ≤ x3 → qX4_omit_B78 a1 a2 post k33 x3 x5 r54 x5 σ62)))))))))
set_option maxRecDepth 20000 in
theorem kX4_omit_L33 {X : Cx} {G : Gw} (hG : fw_IsM G) (O : fw_Ok X G cX4_omit 7 RX4 4 98 (some .int)) {a1 : Int32} {a2 : Int32} {post : Int32 → Mem → Prop} {k33 : Int32 → Int32 → Int32 → Mem → Prop}  (hk33 : ∀ (x3 : Int32) (x4 : Int32) (x5 : Int32) (σ : Mem), k33 x3 x4 x5 σ → fw_At X G 7 (fw_QI X G post) 33 [(0, .ref (gad G 0)), (1, .int a1), (2, .int a2), (3, .int x3), (4, .int x4), (5, .int x5)] [] σ) {x3 : Int32} {x4 : Int32} {x5 : Int32} {σ : Mem} (h : qX4_omit_L33 a1 a2 post k33 x3 x4 x5 σ) : fw_At X G 7 (fw_QI X G post) 33 [(0, .ref (gad G 0)), (1, .int a1), (2, .int a2), (3, .int x3), (4, .int x4), (5, .int x5)] [] σ := by
  unfold qX4_omit_L33 at h
  refine fr_iload (pc := 33) O 5 dX4_omit_33 rfl ?_
  refine fr_aload_n (pc := 35) O 0 dX4_omit_35 rfl rfl ?_
  refine fr_get (pc := 36) (k := 0) (v := .ref (gad G 1)) O cl_X4 m_713 (sM_0 hG) (by decide) rfl rfl dX4_omit_36 ?_
  refine fr_bipush (pc := 39) O (v := (33 : Int32)) dX4_omit_39 (by decide) ?_
  have hi_41 := h.1
  have h := h.2
  refine fr_iald (pc := 41) O (sM_1 hG) hi_41 dX4_omit_41 ?_
  refine fr_icmp_ge (pc := 42) (tgt := 99) O dX4_omit_42 (by decide) (fun c_42 => ?_) (fun c_42 => ?_)
  · have h := h.1 c_42
    refine fr_iload (pc := 99) O 4 dX4_omit_99 rfl ?_
    refine fr_bipush (pc := 101) O (v := (-4 : Int32)) dX4_omit_101 (by decide) ?_
    refine fr_icmp_eq (pc := 103) (tgt := 110) O dX4_omit_103 (by decide) (fun c_103 => ?_) (fun c_103 => ?_)
    · have h := h.1 c_103
      refine fw_sub (lv' := [(0, .ref (gad G 0)), (1, .int a1), (2, .int a2), (4, .int x4)]) [0, 1, 2, 4] rfl ?_
      exact kX4_omit_B110 hG O  h
    · have h := h.2 c_103
      refine fr_iload_n (pc := 106) O 2 dX4_omit_106 rfl rfl ?_
      refine fr_if_ne (pc := 107) (tgt := 115) O dX4_omit_107 (by decide) (fun c_107 => ?_) (fun c_107 => ?_)
      · have h := h.1 c_107
        refine fr_iload_n (pc := 115) O 3 dX4_omit_115 rfl rfl ?_
        refine fw_sub (lv' := [(0, .ref (gad G 0)), (1, .int a1), (2, .int a2)]) [0, 1, 2] rfl ?_
        exact kX4_omit_B116 hG O  h
      · have h := h.2 c_107
        refine fw_sub (lv' := [(0, .ref (gad G 0)), (1, .int a1), (2, .int a2), (4, .int x4)]) [0, 1, 2, 4] rfl ?_
        exact kX4_omit_B110 hG O  h
  · have h := h.2 c_42
    refine fr_aload_n (pc := 45) O 0 dX4_omit_45 rfl rfl ?_
    refine fr_iload (pc := 46) O 5 dX4_omit_46 rfl ?_
    refine fr_put (pc := 48) (k := 15) O cl_X4 m_728 (sM_0 hG) (by decide) rfl rfl rfl rfl (fun _ => Nat.le_of_ble_eq_true rfl) (fun _ => rfl) dX4_omit_48 (fun σ48 e_σ48 => ?_)
    have h := h σ48 e_σ48
    refine fr_aload_n (pc := 51) O 0 dX4_omit_51 rfl rfl ?_
    refine fr_iconst (pc := 52) O (v := (0 : Int32)) dX4_omit_52 (by decide) ?_
    refine fr_iload_n (pc := 53) O 1 dX4_omit_53 rfl rfl ?_
    refine fr_callVI (pc := 54) (st := []) O (tX4_ticksGo X.2.1 hG  h) mt_X4_ticksGo mv_X4_ticksGo m_945 cl_X4 rfl (sM_0 hG) rfl (by decide) rfl (Nat.le_of_ble_eq_true rfl) dX4_omit_54 (fun r54 σ54 h => ?_)
    refine fr_istore (pc := 57) O [1, 2, 3, 4, 5, 6, 0] (lv' := [(0, .ref (gad G 0)), (1, .int a1), (2, .int a2), (3, .int x3), (4, .int x4), (5, .int x5), (6, .int r54)]) dX4_omit_57 (by decide) rfl ?_
    refine fr_aload_n (pc := 59) O 0 dX4_omit_59 rfl rfl ?_
    refine fr_bipush (pc := 60) O (v := (-4 : Int32)) dX4_omit_60 (by decide) ?_
    refine fr_put (pc := 62) (k := 15) O cl_X4 m_728 (sM_0 hG) (by decide) rfl rfl rfl rfl (fun _ => Nat.le_of_ble_eq_true rfl) (fun _ => rfl) dX4_omit_62 (fun σ62 e_σ62 => ?_)
    have h := h σ62 e_σ62
    refine fr_iload (pc := 65) O 6 dX4_omit_65 rfl ?_
    refine fr_iload_n (pc := 67) O 3 dX4_omit_67 rfl rfl ?_
    refine fr_icmp_le (pc := 68) (tgt := 76) O dX4_omit_68 (by decide) (fun c_68 => ?_) (fun c_68 => ?_)
    · have h := h.1 c_68
      refine fr_iload (pc := 76) O 4 dX4_omit_76 rfl ?_
      refine fw_sub (lv' := [(0, .ref (gad G 0)), (1, .int a1), (2, .int a2), (3, .int x3), (5, .int x5), (6, .int r54)]) [0, 1, 2, 3, 5, 6] rfl ?_
      exact kX4_omit_B78 hG O hk33 h
    · have h := h.2 c_68
      refine fr_iload (pc := 71) O 5 dX4_omit_71 rfl ?_
      refine fr_goto (pc := 73) (tgt := 78) O dX4_omit_73 (by decide) ?_
      refine fw_sub (lv' := [(0, .ref (gad G 0)), (1, .int a1), (2, .int a2), (3, .int x3), (5, .int x5), (6, .int r54)]) [0, 1, 2, 3, 5, 6] rfl ?_
      exact kX4_omit_B78 hG O hk33 h
set_option maxRecDepth 20000 in
theorem kX4_omit_L33w {X : Cx} {G : Gw} (hG : fw_IsM G) (O : fw_Ok X G cX4_omit 7 RX4 4 98 (some .int)) {a1 : Int32} {a2 : Int32} {post : Int32 → Mem → Prop}   {n9 : Nat} {x3 : Int32} {x4 : Int32} {x5 : Int32} {σ : Mem} (h : it3 (qX4_omit_L33 a1 a2 post) n9 x3 x4 x5 σ) : fw_At X G 7 (fw_QI X G post) 33 [(0, .ref (gad G 0)), (1, .int a1), (2, .int a2), (3, .int x3), (4, .int x4), (5, .int x5)] [] σ :=
  it3_walk (T := fun x3 x4 x5 σ => fw_At X G 7 (fw_QI X G post) 33 [(0, .ref (gad G 0)), (1, .int a1), (2, .int a2), (3, .int x3), (4, .int x4), (5, .int x5)] [] σ) (fun k33 hk33 x3 x4 x5 σ h => kX4_omit_L33 hG O hk33 h) n9 x3 x4 x5 σ h
def qX4_omit (a1 : Int32) (a2 : Int32) (σ : Mem) (post : Int32 → Mem → Prop) : Prop := (qX4_isLong a1 σ (fun r1 σ1 => ((r1 = 0 → qX4_omit_B17 a1 a2 post σ1) ∧ (¬ r1 = 0 → (qX4_in a2.toInt64 (0 : Int64) (1 : Int64) σ1 (fun r11 σ11 => ((¬ r11 = 0 → (qX4_ticksGo (0 : Int32) a1 σ11 (fun r22 σ22 => ∃ n9, it3 (qX4_omit_L33 a1 a2 post) n9 r22 (-4 : Int32) (0 : Int32) σ22))) ∧ (r11 = 0 → qX4_omit_B17 a1 a2 post σ11))))))))
set_option maxRecDepth 20000 in
theorem kX4_omit {X : Cx} {G : Gw} (hG : fw_IsM G) (O : fw_Ok X G cX4_omit 7 RX4 4 98 (some .int)) {a1 : Int32} {a2 : Int32}  {σ : Mem} {post : Int32 → Mem → Prop} (h : qX4_omit a1 a2 σ post) : fw_At X G 7 (fw_QI X G post) 0 [(0, .ref (gad G 0)), (1, .int a1), (2, .int a2)] [] σ := by
  unfold qX4_omit at h
  refine fr_iload_n (pc := 0) O 1 dX4_omit_0 rfl rfl ?_
  refine fr_callSI (pc := 1) (st := []) O (tX4_isLong X.2.1 hG  h) mt_X4_isLong m_941 m_940 rfl (by decide) rfl (Nat.le_of_ble_eq_true rfl) dX4_omit_1 (fun r1 σ1 h => ?_)
  refine fr_if_eq (pc := 4) (tgt := 17) O dX4_omit_4 (by decide) (fun c_4 => ?_) (fun c_4 => ?_)
  · have h := h.1 c_4
    exact kX4_omit_B17 hG O  h
  · have h := h.2 c_4
    refine fr_iload_n (pc := 7) O 2 dX4_omit_7 rfl rfl ?_
    refine fr_i2l (pc := 8) O dX4_omit_8 ?_
    refine fr_lconst (pc := 9) O (v := (0 : Int64)) dX4_omit_9 (by decide) ?_
    refine fr_lconst (pc := 10) O (v := (1 : Int64)) dX4_omit_10 (by decide) ?_
    refine fr_callSI (pc := 11) (st := []) O (tX4_in X.2.1 hG  h) mt_X4_in m_798 m_797 rfl (by decide) rfl (Nat.le_of_ble_eq_true rfl) dX4_omit_11 (fun r11 σ11 h => ?_)
    refine fr_if_ne (pc := 14) (tgt := 19) O dX4_omit_14 (by decide) (fun c_14 => ?_) (fun c_14 => ?_)
    · have h := h.1 c_14
      refine fr_aload_n (pc := 19) O 0 dX4_omit_19 rfl rfl ?_
      refine fr_iconst (pc := 20) O (v := (0 : Int32)) dX4_omit_20 (by decide) ?_
      refine fr_iload_n (pc := 21) O 1 dX4_omit_21 rfl rfl ?_
      refine fr_callVI (pc := 22) (st := []) O (tX4_ticksGo X.2.1 hG  h) mt_X4_ticksGo mv_X4_ticksGo m_945 cl_X4 rfl (sM_0 hG) rfl (by decide) rfl (Nat.le_of_ble_eq_true rfl) dX4_omit_22 (fun r22 σ22 h => ?_)
      refine fr_istore_n (pc := 25) O [1, 2, 3, 0] (lv' := [(0, .ref (gad G 0)), (1, .int a1), (2, .int a2), (3, .int r22)]) dX4_omit_25 rfl (by decide) rfl ?_
      refine fr_bipush (pc := 26) O (v := (-4 : Int32)) dX4_omit_26 (by decide) ?_
      refine fr_istore (pc := 28) O [1, 2, 3, 4, 0] (lv' := [(0, .ref (gad G 0)), (1, .int a1), (2, .int a2), (3, .int r22), (4, .int (-4 : Int32))]) dX4_omit_28 (by decide) rfl ?_
      refine fr_iconst (pc := 30) O (v := (0 : Int32)) dX4_omit_30 (by decide) ?_
      refine fr_istore (pc := 31) O [1, 2, 3, 4, 5, 0] (lv' := [(0, .ref (gad G 0)), (1, .int a1), (2, .int a2), (3, .int r22), (4, .int (-4 : Int32)), (5, .int (0 : Int32))]) dX4_omit_31 (by decide) rfl ?_
      obtain ⟨n9, h⟩ := h
      exact kX4_omit_L33w hG O  h
    · have h := h.2 c_14
      exact kX4_omit_B17 hG O  h
theorem tX4_omit (l : Launch) {G : Gw} (hG : fw_IsM G) {a1 : Int32} {a2 : Int32}  {σ : Mem} {post : Int32 → Mem → Prop} (h : qX4_omit a1 a2 σ post) : fw_CI l G yX4_omit cX4_omit 7 .int 4 98 [.ref (gad G 0), .int a1, .int a2] σ post := fw_ofI (sok_M hG) (by decide) (Nat.le_of_ble_eq_true rfl) (fun X O => kX4_omit hG O  h)
def qX4_off_B17 (a1 : Int32) (a2 : Int32) (post : Int32 → Mem → Prop) (σ : Mem) : Prop := post (-1 : Int32) σ
set_option maxRecDepth 20000 in
theorem kX4_off_B17 {X : Cx} {G : Gw} (hG : fw_IsM G) (O : fw_Ok X G cX4_off 7 RX4 4 98 (some .int)) {a1 : Int32} {a2 : Int32} {post : Int32 → Mem → Prop}    {σ : Mem} (h : qX4_off_B17 a1 a2 post σ) : fw_At X G 7 (fw_QI X G post) 17 [(0, .ref (gad G 0)), (1, .int a1), (2, .int a2)] [] σ := by
  unfold qX4_off_B17 at h
  refine fr_iconst (pc := 17) O (v := (-1 : Int32)) dX4_off_17 (by decide) ?_
  exact fr_iret (pc := 18) O dX4_off_18 h
def qX4_off_B116 (a1 : Int32) (a2 : Int32) (post : Int32 → Mem → Prop) (s0 : Int32) (σ : Mem) : Prop := post s0 σ
set_option maxRecDepth 20000 in
theorem kX4_off_B116 {X : Cx} {G : Gw} (hG : fw_IsM G) (O : fw_Ok X G cX4_off 7 RX4 4 98 (some .int)) {a1 : Int32} {a2 : Int32} {post : Int32 → Mem → Prop}   {s0 : Int32} {σ : Mem} (h : qX4_off_B116 a1 a2 post s0 σ) : fw_At X G 7 (fw_QI X G post) 116 [(0, .ref (gad G 0)), (1, .int a1), (2, .int a2)] [.int s0] σ := by
  unfold qX4_off_B116 at h
  exact fr_iret (pc := 116) O dX4_off_116 h
def qX4_off_B110 (a1 : Int32) (a2 : Int32) (post : Int32 → Mem → Prop) (x4 : Int32) (σ : Mem) : Prop := qX4_off_B116 a1 a2 post x4 σ
set_option maxRecDepth 20000 in
theorem kX4_off_B110 {X : Cx} {G : Gw} (hG : fw_IsM G) (O : fw_Ok X G cX4_off 7 RX4 4 98 (some .int)) {a1 : Int32} {a2 : Int32} {post : Int32 → Mem → Prop}   {x4 : Int32} {σ : Mem} (h : qX4_off_B110 a1 a2 post x4 σ) : fw_At X G 7 (fw_QI X G post) 110 [(0, .ref (gad G 0)), (1, .int a1), (2, .int a2), (4, .int x4)] [] σ := by
  unfold qX4_off_B110 at h
  refine fr_iload (pc := 110) O 3 dX4_off_110 rfl ?_
  refine fr_goto (pc := 112) (tgt := 116) O dX4_off_112 (by decide) ?_
  refine fw_sub (lv' := [(0, .ref (gad G 0)), (1, .int a1), (2, .int a2)]) [0, 1, 2] rfl ?_
  exact kX4_off_B116 hG O  h
def qX4_off_B92 (a1 : Int32) (a2 : Int32) (post : Int32 → Mem → Prop) (k33 : Int32 → Int32 → Int32 → Mem → Prop) (x4 : Int32) (x5 : Int32) (s0 : Int32) (σ : Mem) : Prop := (∀ y5_93 : Int32, y5_93 = x5 + (1 : Int32) → k33 s0 x4 y5_93 σ)
set_option maxRecDepth 20000 in
theorem kX4_off_B92 {X : Cx} {G : Gw} (hG : fw_IsM G) (O : fw_Ok X G cX4_off 7 RX4 4 98 (some .int)) {a1 : Int32} {a2 : Int32} {post : Int32 → Mem → Prop} {k33 : Int32 → Int32 → Int32 → Mem → Prop}  (hk33 : ∀ (x3 : Int32) (x4 : Int32) (x5 : Int32) (σ : Mem), k33 x3 x4 x5 σ → fw_At X G 7 (fw_QI X G post) 33 [(0, .ref (gad G 0)), (1, .int a1), (2, .int a2), (3, .int x3), (4, .int x4), (5, .int x5)] [] σ) {x4 : Int32} {x5 : Int32} {s0 : Int32} {σ : Mem} (h : qX4_off_B92 a1 a2 post k33 x4 x5 s0 σ) : fw_At X G 7 (fw_QI X G post) 92 [(0, .ref (gad G 0)), (1, .int a1), (2, .int a2), (4, .int x4), (5, .int x5)] [.int s0] σ := by
  unfold qX4_off_B92 at h
  refine fr_istore_n (pc := 92) O [1, 2, 3, 0, 4, 5] (lv' := [(0, .ref (gad G 0)), (1, .int a1), (2, .int a2), (3, .int s0), (4, .int x4), (5, .int x5)]) dX4_off_92 rfl (by decide) rfl ?_
  refine fr_iinc (pc := 93) O 5 [1, 2, 3, 4, 5, 0] (w := (1 : Int32)) (lvF := fun y5_93 => [(0, .ref (gad G 0)), (1, .int a1), (2, .int a2), (3, .int s0), (4, .int x4), (5, .int y5_93)]) dX4_off_93 rfl (by decide) (by decide) (fun _ => rfl) (fun y5_93 e_y5_93 => ?_)
  have h := h y5_93 e_y5_93
  refine fr_goto (pc := 96) (tgt := 33) O dX4_off_96 (by decide) ?_
  exact hk33 _ _ _ _ h
def qX4_off_B78 (a1 : Int32) (a2 : Int32) (post : Int32 → Mem → Prop) (k33 : Int32 → Int32 → Int32 → Mem → Prop) (x3 : Int32) (x5 : Int32) (x6 : Int32) (s0 : Int32) (σ : Mem) : Prop := ((x6 ≤ x3 → qX4_off_B92 a1 a2 post k33 s0 x5 x3 σ) ∧ (¬ x6 ≤ x3 → qX4_off_B92 a1 a2 post k33 s0 x5 x6 σ))
set_option maxRecDepth 20000 in
theorem kX4_off_B78 {X : Cx} {G : Gw} (hG : fw_IsM G) (O : fw_Ok X G cX4_off 7 RX4 4 98 (some .int)) {a1 : Int32} {a2 : Int32} {post : Int32 → Mem → Prop} {k33 : Int32 → Int32 → Int32 → Mem → Prop}  (hk33 : ∀ (x3 : Int32) (x4 : Int32) (x5 : Int32) (σ : Mem), k33 x3 x4 x5 σ → fw_At X G 7 (fw_QI X G post) 33 [(0, .ref (gad G 0)), (1, .int a1), (2, .int a2), (3, .int x3), (4, .int x4), (5, .int x5)] [] σ) {x3 : Int32} {x5 : Int32} {x6 : Int32} {s0 : Int32} {σ : Mem} (h : qX4_off_B78 a1 a2 post k33 x3 x5 x6 s0 σ) : fw_At X G 7 (fw_QI X G post) 78 [(0, .ref (gad G 0)), (1, .int a1), (2, .int a2), (3, .int x3), (5, .int x5), (6, .int x6)] [.int s0] σ := by
  unfold qX4_off_B78 at h
  refine fr_istore (pc := 78) O [1, 2, 3, 4, 0, 5, 6] (lv' := [(0, .ref (gad G 0)), (1, .int a1), (2, .int a2), (3, .int x3), (4, .int s0), (5, .int x5), (6, .int x6)]) dX4_off_78 (by decide) rfl ?_
  refine fr_iload (pc := 80) O 6 dX4_off_80 rfl ?_
  refine fr_iload_n (pc := 82) O 3 dX4_off_82 rfl rfl ?_
  refine fr_icmp_le (pc := 83) (tgt := 91) O dX4_off_83 (by decide) (fun c_83 => ?_) (fun c_83 => ?_)
  · have h := h.1 c_83
    refine fr_iload_n (pc := 91) O 3 dX4_off_91 rfl rfl ?_
    refine fw_sub (lv' := [(0, .ref (gad G 0)), (1, .int a1), (2, .int a2), (4, .int s0), (5, .int x5)]) [0, 1, 2, 4, 5] rfl ?_
    exact kX4_off_B92 hG O hk33 h
  · have h := h.2 c_83
    refine fr_iload (pc := 86) O 6 dX4_off_86 rfl ?_
    refine fr_goto (pc := 88) (tgt := 92) O dX4_off_88 (by decide) ?_
    refine fw_sub (lv' := [(0, .ref (gad G 0)), (1, .int a1), (2, .int a2), (4, .int s0), (5, .int x5)]) [0, 1, 2, 4, 5] rfl ?_
    exact kX4_off_B92 hG O hk33 h
def qX4_off_L33 (a1 : Int32) (a2 : Int32) (post : Int32 → Mem → Prop) (k33 : Int32 → Int32 → Int32 → Mem → Prop) (x3 : Int32) (x4 : Int32) (x5 : Int32) (σ : Mem) : Prop := (vp_in (16 : Int32) 234 ∧ (((σ 1 (16 : Int32).toNatClampNeg) ≤ x5 → ((x4 = (-4 : Int32) → qX4_off_B110 a1 a2 post x4 σ) ∧ (¬ x4 = (-4 : Int32) → ((¬ a2 = 0 → qX4_off_B116 a1 a2 post x3 σ) ∧ (a2 = 0 → qX4_off_B110 a1 a2 post x4 σ))))) ∧ (¬ (σ 1 (16 : Int32).toNatClampNeg) ≤ x5 → (∀ σ48 : Mem, σ48 = up2 σ 0 14 x5 → (qX4_ticksGo (0 : Int32) a1 σ48 (fun r54 σ54 => (∀ σ62 : Mem, σ62 = up2 σ54 0 14 (-4 : Int32) → ((r54 ≤ x3 → qX4_off_B78 a1 a2 post k33 x3 x5 r54 x4 σ62) ∧ (¬ r54 ≤ x3 → qX4_off_B78 a1 a2 post k33 x3 x5 r54 x5 σ62)))))))))
set_option maxRecDepth 20000 in
theorem kX4_off_L33 {X : Cx} {G : Gw} (hG : fw_IsM G) (O : fw_Ok X G cX4_off 7 RX4 4 98 (some .int)) {a1 : Int32} {a2 : Int32} {post : Int32 → Mem → Prop} {k33 : Int32 → Int32 → Int32 → Mem → Prop}  (hk33 : ∀ (x3 : Int32) (x4 : Int32) (x5 : Int32) (σ : Mem), k33 x3 x4 x5 σ → fw_At X G 7 (fw_QI X G post) 33 [(0, .ref (gad G 0)), (1, .int a1), (2, .int a2), (3, .int x3), (4, .int x4), (5, .int x5)] [] σ) {x3 : Int32} {x4 : Int32} {x5 : Int32} {σ : Mem} (h : qX4_off_L33 a1 a2 post k33 x3 x4 x5 σ) : fw_At X G 7 (fw_QI X G post) 33 [(0, .ref (gad G 0)), (1, .int a1), (2, .int a2), (3, .int x3), (4, .int x4), (5, .int x5)] [] σ := by
  unfold qX4_off_L33 at h
  refine fr_iload (pc := 33) O 5 dX4_off_33 rfl ?_
  refine fr_aload_n (pc := 35) O 0 dX4_off_35 rfl rfl ?_
  refine fr_get (pc := 36) (k := 0) (v := .ref (gad G 1)) O cl_X4 m_713 (sM_0 hG) (by decide) rfl rfl dX4_off_36 ?_
  refine fr_bipush (pc := 39) O (v := (16 : Int32)) dX4_off_39 (by decide) ?_
  have hi_41 := h.1
  have h := h.2
  refine fr_iald (pc := 41) O (sM_1 hG) hi_41 dX4_off_41 ?_
  refine fr_icmp_ge (pc := 42) (tgt := 99) O dX4_off_42 (by decide) (fun c_42 => ?_) (fun c_42 => ?_)
  · have h := h.1 c_42
    refine fr_iload (pc := 99) O 4 dX4_off_99 rfl ?_
    refine fr_bipush (pc := 101) O (v := (-4 : Int32)) dX4_off_101 (by decide) ?_
    refine fr_icmp_eq (pc := 103) (tgt := 110) O dX4_off_103 (by decide) (fun c_103 => ?_) (fun c_103 => ?_)
    · have h := h.1 c_103
      refine fw_sub (lv' := [(0, .ref (gad G 0)), (1, .int a1), (2, .int a2), (4, .int x4)]) [0, 1, 2, 4] rfl ?_
      exact kX4_off_B110 hG O  h
    · have h := h.2 c_103
      refine fr_iload_n (pc := 106) O 2 dX4_off_106 rfl rfl ?_
      refine fr_if_ne (pc := 107) (tgt := 115) O dX4_off_107 (by decide) (fun c_107 => ?_) (fun c_107 => ?_)
      · have h := h.1 c_107
        refine fr_iload_n (pc := 115) O 3 dX4_off_115 rfl rfl ?_
        refine fw_sub (lv' := [(0, .ref (gad G 0)), (1, .int a1), (2, .int a2)]) [0, 1, 2] rfl ?_
        exact kX4_off_B116 hG O  h
      · have h := h.2 c_107
        refine fw_sub (lv' := [(0, .ref (gad G 0)), (1, .int a1), (2, .int a2), (4, .int x4)]) [0, 1, 2, 4] rfl ?_
        exact kX4_off_B110 hG O  h
  · have h := h.2 c_42
    refine fr_aload_n (pc := 45) O 0 dX4_off_45 rfl rfl ?_
    refine fr_iload (pc := 46) O 5 dX4_off_46 rfl ?_
    refine fr_put (pc := 48) (k := 14) O cl_X4 m_727 (sM_0 hG) (by decide) rfl rfl rfl rfl (fun _ => Nat.le_of_ble_eq_true rfl) (fun _ => rfl) dX4_off_48 (fun σ48 e_σ48 => ?_)
    have h := h σ48 e_σ48
    refine fr_aload_n (pc := 51) O 0 dX4_off_51 rfl rfl ?_
    refine fr_iconst (pc := 52) O (v := (0 : Int32)) dX4_off_52 (by decide) ?_
    refine fr_iload_n (pc := 53) O 1 dX4_off_53 rfl rfl ?_
    refine fr_callVI (pc := 54) (st := []) O (tX4_ticksGo X.2.1 hG  h) mt_X4_ticksGo mv_X4_ticksGo m_945 cl_X4 rfl (sM_0 hG) rfl (by decide) rfl (Nat.le_of_ble_eq_true rfl) dX4_off_54 (fun r54 σ54 h => ?_)
    refine fr_istore (pc := 57) O [1, 2, 3, 4, 5, 6, 0] (lv' := [(0, .ref (gad G 0)), (1, .int a1), (2, .int a2), (3, .int x3), (4, .int x4), (5, .int x5), (6, .int r54)]) dX4_off_57 (by decide) rfl ?_
    refine fr_aload_n (pc := 59) O 0 dX4_off_59 rfl rfl ?_
    refine fr_bipush (pc := 60) O (v := (-4 : Int32)) dX4_off_60 (by decide) ?_
    refine fr_put (pc := 62) (k := 14) O cl_X4 m_727 (sM_0 hG) (by decide) rfl rfl rfl rfl (fun _ => Nat.le_of_ble_eq_true rfl) (fun _ => rfl) dX4_off_62 (fun σ62 e_σ62 => ?_)
    have h := h σ62 e_σ62
    refine fr_iload (pc := 65) O 6 dX4_off_65 rfl ?_
    refine fr_iload_n (pc := 67) O 3 dX4_off_67 rfl rfl ?_
    refine fr_icmp_le (pc := 68) (tgt := 76) O dX4_off_68 (by decide) (fun c_68 => ?_) (fun c_68 => ?_)
    · have h := h.1 c_68
      refine fr_iload (pc := 76) O 4 dX4_off_76 rfl ?_
      refine fw_sub (lv' := [(0, .ref (gad G 0)), (1, .int a1), (2, .int a2), (3, .int x3), (5, .int x5), (6, .int r54)]) [0, 1, 2, 3, 5, 6] rfl ?_
      exact kX4_off_B78 hG O hk33 h
    · have h := h.2 c_68
      refine fr_iload (pc := 71) O 5 dX4_off_71 rfl ?_
      refine fr_goto (pc := 73) (tgt := 78) O dX4_off_73 (by decide) ?_
      refine fw_sub (lv' := [(0, .ref (gad G 0)), (1, .int a1), (2, .int a2), (3, .int x3), (5, .int x5), (6, .int r54)]) [0, 1, 2, 3, 5, 6] rfl ?_
      exact kX4_off_B78 hG O hk33 h
set_option maxRecDepth 20000 in
theorem kX4_off_L33w {X : Cx} {G : Gw} (hG : fw_IsM G) (O : fw_Ok X G cX4_off 7 RX4 4 98 (some .int)) {a1 : Int32} {a2 : Int32} {post : Int32 → Mem → Prop}   {n9 : Nat} {x3 : Int32} {x4 : Int32} {x5 : Int32} {σ : Mem} (h : it3 (qX4_off_L33 a1 a2 post) n9 x3 x4 x5 σ) : fw_At X G 7 (fw_QI X G post) 33 [(0, .ref (gad G 0)), (1, .int a1), (2, .int a2), (3, .int x3), (4, .int x4), (5, .int x5)] [] σ :=
  it3_walk (T := fun x3 x4 x5 σ => fw_At X G 7 (fw_QI X G post) 33 [(0, .ref (gad G 0)), (1, .int a1), (2, .int a2), (3, .int x3), (4, .int x4), (5, .int x5)] [] σ) (fun k33 hk33 x3 x4 x5 σ h => kX4_off_L33 hG O hk33 h) n9 x3 x4 x5 σ h
def qX4_off (a1 : Int32) (a2 : Int32) (σ : Mem) (post : Int32 → Mem → Prop) : Prop := (qX4_isLong a1 σ (fun r1 σ1 => ((r1 = 0 → qX4_off_B17 a1 a2 post σ1) ∧ (¬ r1 = 0 → (qX4_in a2.toInt64 (0 : Int64) (1 : Int64) σ1 (fun r11 σ11 => ((¬ r11 = 0 → (qX4_ticksGo (0 : Int32) a1 σ11 (fun r22 σ22 => ∃ n9, it3 (qX4_off_L33 a1 a2 post) n9 r22 (-4 : Int32) (0 : Int32) σ22))) ∧ (r11 = 0 → qX4_off_B17 a1 a2 post σ11))))))))
set_option maxRecDepth 20000 in
theorem kX4_off {X : Cx} {G : Gw} (hG : fw_IsM G) (O : fw_Ok X G cX4_off 7 RX4 4 98 (some .int)) {a1 : Int32} {a2 : Int32}  {σ : Mem} {post : Int32 → Mem → Prop} (h : qX4_off a1 a2 σ post) : fw_At X G 7 (fw_QI X G post) 0 [(0, .ref (gad G 0)), (1, .int a1), (2, .int a2)] [] σ := by
  unfold qX4_off at h
  refine fr_iload_n (pc := 0) O 1 dX4_off_0 rfl rfl ?_
  refine fr_callSI (pc := 1) (st := []) O (tX4_isLong X.2.1 hG  h) mt_X4_isLong m_941 m_940 rfl (by decide) rfl (Nat.le_of_ble_eq_true rfl) dX4_off_1 (fun r1 σ1 h => ?_)
  refine fr_if_eq (pc := 4) (tgt := 17) O dX4_off_4 (by decide) (fun c_4 => ?_) (fun c_4 => ?_)
  · have h := h.1 c_4
    exact kX4_off_B17 hG O  h
  · have h := h.2 c_4
    refine fr_iload_n (pc := 7) O 2 dX4_off_7 rfl rfl ?_
    refine fr_i2l (pc := 8) O dX4_off_8 ?_
    refine fr_lconst (pc := 9) O (v := (0 : Int64)) dX4_off_9 (by decide) ?_
    refine fr_lconst (pc := 10) O (v := (1 : Int64)) dX4_off_10 (by decide) ?_
    refine fr_callSI (pc := 11) (st := []) O (tX4_in X.2.1 hG  h) mt_X4_in m_798 m_797 rfl (by decide) rfl (Nat.le_of_ble_eq_true rfl) dX4_off_11 (fun r11 σ11 h => ?_)
    refine fr_if_ne (pc := 14) (tgt := 19) O dX4_off_14 (by decide) (fun c_14 => ?_) (fun c_14 => ?_)
    · have h := h.1 c_14
      refine fr_aload_n (pc := 19) O 0 dX4_off_19 rfl rfl ?_
      refine fr_iconst (pc := 20) O (v := (0 : Int32)) dX4_off_20 (by decide) ?_
      refine fr_iload_n (pc := 21) O 1 dX4_off_21 rfl rfl ?_
      refine fr_callVI (pc := 22) (st := []) O (tX4_ticksGo X.2.1 hG  h) mt_X4_ticksGo mv_X4_ticksGo m_945 cl_X4 rfl (sM_0 hG) rfl (by decide) rfl (Nat.le_of_ble_eq_true rfl) dX4_off_22 (fun r22 σ22 h => ?_)
      refine fr_istore_n (pc := 25) O [1, 2, 3, 0] (lv' := [(0, .ref (gad G 0)), (1, .int a1), (2, .int a2), (3, .int r22)]) dX4_off_25 rfl (by decide) rfl ?_
      refine fr_bipush (pc := 26) O (v := (-4 : Int32)) dX4_off_26 (by decide) ?_
      refine fr_istore (pc := 28) O [1, 2, 3, 4, 0] (lv' := [(0, .ref (gad G 0)), (1, .int a1), (2, .int a2), (3, .int r22), (4, .int (-4 : Int32))]) dX4_off_28 (by decide) rfl ?_
      refine fr_iconst (pc := 30) O (v := (0 : Int32)) dX4_off_30 (by decide) ?_
      refine fr_istore (pc := 31) O [1, 2, 3, 4, 5, 0] (lv' := [(0, .ref (gad G 0)), (1, .int a1), (2, .int a2), (3, .int r22), (4, .int (-4 : Int32)), (5, .int (0 : Int32))]) dX4_off_31 (by decide) rfl ?_
      obtain ⟨n9, h⟩ := h
      exact kX4_off_L33w hG O  h
    · have h := h.2 c_14
      exact kX4_off_B17 hG O  h
theorem tX4_off (l : Launch) {G : Gw} (hG : fw_IsM G) {a1 : Int32} {a2 : Int32}  {σ : Mem} {post : Int32 → Mem → Prop} (h : qX4_off a1 a2 σ post) : fw_CI l G yX4_off cX4_off 7 .int 4 98 [.ref (gad G 0), .int a1, .int a2] σ post := fw_ofI (sok_M hG) (by decide) (Nat.le_of_ble_eq_true rfl) (fun X O => kX4_off hG O  h)
def qX4_lowest_B41 (a0 : Int64) (a2 : Int64) (a4 : Int32) (post : Int64 → Mem → Prop) (x5 : Int64) (s0 : Int64) (σ : Mem) : Prop := (¬ x5 = 0 ∧ post (s0 / x5) σ)
set_option maxRecDepth 20000 in
theorem kX4_lowest_B41 {X : Cx} {G : Gw} (hG : fw_IsM G) (O : fw_Ok X G cX4_lowest 11 RX4 0 0 (some .long)) {a0 : Int64} {a2 : Int64} {a4 : Int32} {post : Int64 → Mem → Prop}   {x5 : Int64} {s0 : Int64} {σ : Mem} (h : qX4_lowest_B41 a0 a2 a4 post x5 s0 σ) : fw_At X G 11 (fw_QL X G post) 41 [(0, .long a0), (2, .long a2), (4, .int a4), (5, .long x5)] [.long s0] σ := by
  unfold qX4_lowest_B41 at h
  refine fr_lload (pc := 41) O 3 dX4_lowest_41 rfl ?_
  refine fr_ldiv (pc := 43) O h.1 dX4_lowest_43 ?_
  have h := h.2
  exact fr_lret (pc := 44) O dX4_lowest_44 h
def qX4_lowest_L6 (a0 : Int64) (a2 : Int64) (a4 : Int32) (post : Int64 → Mem → Prop) (k6 : Int64 → Int64 → Mem → Prop) (x5 : Int64) (x7 : Int64) (σ : Mem) : Prop := (((lg_cmp x7 (0 : Int64)) = 0 → ((¬ a4 = 0 → qX4_lowest_B41 a0 a2 a4 post x5 a2 σ) ∧ (a4 = 0 → qX4_lowest_B41 a0 a2 a4 post x5 a0 σ))) ∧ (¬ (lg_cmp x7 (0 : Int64)) = 0 → (¬ x7 = 0 ∧ (∀ y9_18 : Int64, y9_18 = x5 - x5 / x7 * x7 → k6 x7 y9_18 σ))))
set_option maxRecDepth 20000 in
theorem kX4_lowest_L6 {X : Cx} {G : Gw} (hG : fw_IsM G) (O : fw_Ok X G cX4_lowest 11 RX4 0 0 (some .long)) {a0 : Int64} {a2 : Int64} {a4 : Int32} {post : Int64 → Mem → Prop} {k6 : Int64 → Int64 → Mem → Prop}  (hk6 : ∀ (x5 : Int64) (x7 : Int64) (σ : Mem), k6 x5 x7 σ → fw_At X G 11 (fw_QL X G post) 6 [(0, .long a0), (2, .long a2), (4, .int a4), (5, .long x5), (7, .long x7)] [] σ) {x5 : Int64} {x7 : Int64} {σ : Mem} (h : qX4_lowest_L6 a0 a2 a4 post k6 x5 x7 σ) : fw_At X G 11 (fw_QL X G post) 6 [(0, .long a0), (2, .long a2), (4, .int a4), (5, .long x5), (7, .long x7)] [] σ := by
  unfold qX4_lowest_L6 at h
  refine fr_lload (pc := 6) O 4 dX4_lowest_6 rfl ?_
  refine fr_lconst (pc := 8) O (v := (0 : Int64)) dX4_lowest_8 (by decide) ?_
  refine fr_lcmp (pc := 9) O dX4_lowest_9 ?_
  refine fr_if_eq (pc := 10) (tgt := 31) O dX4_lowest_10 (by decide) (fun c_10 => ?_) (fun c_10 => ?_)
  · have h := h.1 c_10
    refine fr_iload (pc := 31) O 2 dX4_lowest_31 rfl ?_
    refine fr_if_ne (pc := 33) (tgt := 40) O dX4_lowest_33 (by decide) (fun c_33 => ?_) (fun c_33 => ?_)
    · have h := h.1 c_33
      refine fr_lload_n (pc := 40) O 1 dX4_lowest_40 rfl rfl ?_
      refine fw_sub (lv' := [(0, .long a0), (2, .long a2), (4, .int a4), (5, .long x5)]) [0, 1, 2, 3] rfl ?_
      exact kX4_lowest_B41 hG O  h
    · have h := h.2 c_33
      refine fr_lload_n (pc := 36) O 0 dX4_lowest_36 rfl rfl ?_
      refine fr_goto (pc := 37) (tgt := 41) O dX4_lowest_37 (by decide) ?_
      refine fw_sub (lv' := [(0, .long a0), (2, .long a2), (4, .int a4), (5, .long x5)]) [0, 1, 2, 3] rfl ?_
      exact kX4_lowest_B41 hG O  h
  · have h := h.2 c_10
    refine fr_lload (pc := 13) O 3 dX4_lowest_13 rfl ?_
    refine fr_lload (pc := 15) O 4 dX4_lowest_15 rfl ?_
    refine fr_lrem (pc := 17) O h.1 dX4_lowest_17 ?_
    have h := h.2
    refine fr_nml (fun y9_18 e_y9_18 => ?_)
    have h := h y9_18 e_y9_18
    refine fr_lstore (pc := 18) O [1, 2, 3, 4, 5, 0] (lv' := [(0, .long a0), (2, .long a2), (4, .int a4), (5, .long x5), (7, .long x7), (9, .long y9_18)]) dX4_lowest_18 (by decide) rfl ?_
    refine fr_lload (pc := 20) O 4 dX4_lowest_20 rfl ?_
    refine fr_lstore (pc := 22) O [1, 2, 3, 0, 4, 5] (lv' := [(0, .long a0), (2, .long a2), (4, .int a4), (5, .long x7), (7, .long x7), (9, .long y9_18)]) dX4_lowest_22 (by decide) rfl ?_
    refine fr_lload (pc := 24) O 5 dX4_lowest_24 rfl ?_
    refine fr_lstore (pc := 26) O [1, 2, 3, 4, 0, 5] (lv' := [(0, .long a0), (2, .long a2), (4, .int a4), (5, .long x7), (7, .long y9_18), (9, .long y9_18)]) dX4_lowest_26 (by decide) rfl ?_
    refine fr_goto (pc := 28) (tgt := 6) O dX4_lowest_28 (by decide) ?_
    refine fw_sub (lv' := [(0, .long a0), (2, .long a2), (4, .int a4), (5, .long x7), (7, .long y9_18)]) [0, 1, 2, 3, 4] rfl ?_
    exact hk6 _ _ _ h
set_option maxRecDepth 20000 in
theorem kX4_lowest_L6w {X : Cx} {G : Gw} (hG : fw_IsM G) (O : fw_Ok X G cX4_lowest 11 RX4 0 0 (some .long)) {a0 : Int64} {a2 : Int64} {a4 : Int32} {post : Int64 → Mem → Prop}   {n9 : Nat} {x5 : Int64} {x7 : Int64} {σ : Mem} (h : it2 (qX4_lowest_L6 a0 a2 a4 post) n9 x5 x7 σ) : fw_At X G 11 (fw_QL X G post) 6 [(0, .long a0), (2, .long a2), (4, .int a4), (5, .long x5), (7, .long x7)] [] σ :=
  it2_walk (T := fun x5 x7 σ => fw_At X G 11 (fw_QL X G post) 6 [(0, .long a0), (2, .long a2), (4, .int a4), (5, .long x5), (7, .long x7)] [] σ) (fun k6 hk6 x5 x7 σ h => kX4_lowest_L6 hG O hk6 h) n9 x5 x7 σ h
def qX4_lowest (a0 : Int64) (a2 : Int64) (a4 : Int32) (σ : Mem) (post : Int64 → Mem → Prop) : Prop := ∃ n9, it2 (qX4_lowest_L6 a0 a2 a4 post) n9 a0 a2 σ
set_option maxRecDepth 20000 in
theorem kX4_lowest {X : Cx} {G : Gw} (hG : fw_IsM G) (O : fw_Ok X G cX4_lowest 11 RX4 0 0 (some .long)) {a0 : Int64} {a2 : Int64} {a4 : Int32}  {σ : Mem} {post : Int64 → Mem → Prop} (h : qX4_lowest a0 a2 a4 σ post) : fw_At X G 11 (fw_QL X G post) 0 [(0, .long a0), (2, .long a2), (4, .int a4)] [] σ := by
  unfold qX4_lowest at h
  refine fr_lload_n (pc := 0) O 0 dX4_lowest_0 rfl rfl ?_
  refine fr_lstore (pc := 1) O [1, 2, 3, 0] (lv' := [(0, .long a0), (2, .long a2), (4, .int a4), (5, .long a0)]) dX4_lowest_1 (by decide) rfl ?_
  refine fr_lload_n (pc := 3) O 1 dX4_lowest_3 rfl rfl ?_
  refine fr_lstore (pc := 4) O [1, 2, 3, 4, 0] (lv' := [(0, .long a0), (2, .long a2), (4, .int a4), (5, .long a0), (7, .long a2)]) dX4_lowest_4 (by decide) rfl ?_
  obtain ⟨n9, h⟩ := h
  exact kX4_lowest_L6w hG O  h
theorem tX4_lowest (l : Launch) {G : Gw} (hG : fw_IsM G) {a0 : Int64} {a2 : Int64} {a4 : Int32}  {σ : Mem} {post : Int64 → Mem → Prop} (h : qX4_lowest a0 a2 a4 σ post) : fw_CL l G yX4_lowest cX4_lowest 11 0 0 [.long a0, .long a2, .int a4] σ post := fw_ofL (sok_M hG) (by decide) (Nat.le_of_ble_eq_true rfl) (fun X O => kX4_lowest hG O  h)
def qX4_byFails_B152 (a1 : Int32) (a2 : Int32) (a3 : Int32) (a4 : Int32) (post : Int64 → Mem → Prop) (k32 : Int64 → Int64 → Int32 → Mem → Prop) (x7 : Int64) (x9 : Int32) (s0 : Int64) (s1 : Int64) (s2 : Int32) (σ : Mem) : Prop := (∀ y5_155 : Int64, y5_155 = s0 + (s1 * s2.toInt64) → (∀ y9_157 : Int32, y9_157 = x9 + (1 : Int32) → k32 y5_155 x7 y9_157 σ))
set_option maxRecDepth 20000 in
theorem kX4_byFails_B152 {X : Cx} {G : Gw} (hG : fw_IsM G) (O : fw_Ok X G cX4_byFails 14 RX4 3 75 (some .long)) {a1 : Int32} {a2 : Int32} {a3 : Int32} {a4 : Int32} {post : Int64 → Mem → Prop} {k32 : Int64 → Int64 → Int32 → Mem → Prop}  (hk32 : ∀ (x5 : Int64) (x7 : Int64) (x9 : Int32) (σ : Mem), k32 x5 x7 x9 σ → fw_At X G 14 (fw_QL X G post) 32 [(0, .ref (gad G 0)), (1, .int a1), (2, .int a2), (3, .int a3), (4, .int a4), (5, .long x5), (7, .long x7), (9, .int x9)] [] σ) {x7 : Int64} {x9 : Int32} {s0 : Int64} {s1 : Int64} {s2 : Int32} {σ : Mem} (h : qX4_byFails_B152 a1 a2 a3 a4 post k32 x7 x9 s0 s1 s2 σ) : fw_At X G 14 (fw_QL X G post) 152 [(0, .ref (gad G 0)), (1, .int a1), (2, .int a2), (3, .int a3), (4, .int a4), (7, .long x7), (9, .int x9)] [.int s2, .long s1, .long s0] σ := by
  unfold qX4_byFails_B152 at h
  refine fr_i2l (pc := 152) O dX4_byFails_152 ?_
  refine fr_lmul (pc := 153) O dX4_byFails_153 ?_
  refine fr_ladd (pc := 154) O dX4_byFails_154 ?_
  refine fr_nml (fun y5_155 e_y5_155 => ?_)
  have h := h y5_155 e_y5_155
  refine fr_lstore (pc := 155) O [1, 2, 3, 4, 5, 0, 6, 7] (lv' := [(0, .ref (gad G 0)), (1, .int a1), (2, .int a2), (3, .int a3), (4, .int a4), (5, .long y5_155), (7, .long x7), (9, .int x9)]) dX4_byFails_155 (by decide) rfl ?_
  refine fr_iinc (pc := 157) O 7 [1, 2, 3, 4, 5, 6, 7, 0] (w := (1 : Int32)) (lvF := fun y9_157 => [(0, .ref (gad G 0)), (1, .int a1), (2, .int a2), (3, .int a3), (4, .int a4), (5, .long y5_155), (7, .long x7), (9, .int y9_157)]) dX4_byFails_157 rfl (by decide) (by decide) (fun _ => rfl) (fun y9_157 e_y9_157 => ?_)
  have h := h y9_157 e_y9_157
  refine fr_goto (pc := 160) (tgt := 32) O dX4_byFails_160 (by decide) ?_
  exact hk32 _ _ _ _ h
def qX4_byFails_B95 (a1 : Int32) (a2 : Int32) (a3 : Int32) (a4 : Int32) (post : Int64 → Mem → Prop) (k32 : Int64 → Int64 → Int32 → Mem → Prop) (k54 : Int64 → Int64 → Int32 → Int64 → Int32 → Mem → Prop) (x5 : Int64) (x7 : Int64) (x9 : Int32) (x12 : Int32) (x13 : Int32) (s0 : Int64) (s1 : Int64) (σ : Mem) : Prop := (∀ y10_96 : Int64, y10_96 = s0 * s1 → (qX4_tickOn (156 : Int32) x13 σ (fun σ104 => (∀ y12_107 : Int32, y12_107 = x12 + (1 : Int32) → k54 x5 x7 x9 y10_96 y12_107 σ104))))
set_option maxRecDepth 20000 in
theorem kX4_byFails_B95 {X : Cx} {G : Gw} (hG : fw_IsM G) (O : fw_Ok X G cX4_byFails 14 RX4 3 75 (some .long)) {a1 : Int32} {a2 : Int32} {a3 : Int32} {a4 : Int32} {post : Int64 → Mem → Prop} {k32 : Int64 → Int64 → Int32 → Mem → Prop} {k54 : Int64 → Int64 → Int32 → Int64 → Int32 → Mem → Prop}  (hk32 : ∀ (x5 : Int64) (x7 : Int64) (x9 : Int32) (σ : Mem), k32 x5 x7 x9 σ → fw_At X G 14 (fw_QL X G post) 32 [(0, .ref (gad G 0)), (1, .int a1), (2, .int a2), (3, .int a3), (4, .int a4), (5, .long x5), (7, .long x7), (9, .int x9)] [] σ) (hk54 : ∀ (x5 : Int64) (x7 : Int64) (x9 : Int32) (x10 : Int64) (x12 : Int32) (σ : Mem), k54 x5 x7 x9 x10 x12 σ → fw_At X G 14 (fw_QL X G post) 54 [(0, .ref (gad G 0)), (1, .int a1), (2, .int a2), (3, .int a3), (4, .int a4), (5, .long x5), (7, .long x7), (9, .int x9), (10, .long x10), (12, .int x12)] [] σ) {x5 : Int64} {x7 : Int64} {x9 : Int32} {x12 : Int32} {x13 : Int32} {s0 : Int64} {s1 : Int64} {σ : Mem} (h : qX4_byFails_B95 a1 a2 a3 a4 post k32 k54 x5 x7 x9 x12 x13 s0 s1 σ) : fw_At X G 14 (fw_QL X G post) 95 [(0, .ref (gad G 0)), (1, .int a1), (2, .int a2), (3, .int a3), (4, .int a4), (5, .long x5), (7, .long x7), (9, .int x9), (12, .int x12), (13, .int x13)] [.long s1, .long s0] σ := by
  unfold qX4_byFails_B95 at h
  refine fr_lmul (pc := 95) O dX4_byFails_95 ?_
  refine fr_nml (fun y10_96 e_y10_96 => ?_)
  have h := h y10_96 e_y10_96
  refine fr_lstore (pc := 96) O [1, 2, 3, 4, 5, 6, 7, 8, 0, 9, 10] (lv' := [(0, .ref (gad G 0)), (1, .int a1), (2, .int a2), (3, .int a3), (4, .int a4), (5, .long x5), (7, .long x7), (9, .int x9), (10, .long y10_96), (12, .int x12), (13, .int x13)]) dX4_byFails_96 (by decide) rfl ?_
  refine fr_aload_n (pc := 98) O 0 dX4_byFails_98 rfl rfl ?_
  refine fr_sipush (pc := 99) O (v := (156 : Int32)) dX4_byFails_99 (by decide) ?_
  refine fr_iload (pc := 102) O 10 dX4_byFails_102 rfl ?_
  refine fr_callVV (pc := 104) (st := []) O (tX4_tickOn X.2.1 hG  h) mt_X4_tickOn mv_X4_tickOn m_928 cl_X4 rfl (sM_0 hG) rfl (by decide) rfl (Nat.le_of_ble_eq_true rfl) dX4_byFails_104 (fun σ104 h => ?_)
  refine fr_iinc (pc := 107) O 9 [1, 2, 3, 4, 5, 6, 7, 8, 9, 0, 10] (w := (1 : Int32)) (lvF := fun y12_107 => [(0, .ref (gad G 0)), (1, .int a1), (2, .int a2), (3, .int a3), (4, .int a4), (5, .long x5), (7, .long x7), (9, .int x9), (10, .long y10_96), (12, .int y12_107), (13, .int x13)]) dX4_byFails_107 rfl (by decide) (by decide) (fun _ => rfl) (fun y12_107 e_y12_107 => ?_)
  have h := h y12_107 e_y12_107
  refine fr_goto (pc := 110) (tgt := 54) O dX4_byFails_110 (by decide) ?_
  refine fw_sub (lv' := [(0, .ref (gad G 0)), (1, .int a1), (2, .int a2), (3, .int a3), (4, .int a4), (5, .long x5), (7, .long x7), (9, .int x9), (10, .long y10_96), (12, .int y12_107)]) [0, 1, 2, 3, 4, 5, 6, 7, 8, 9] rfl ?_
  exact hk54 _ _ _ _ _ _ h
def qX4_byFails_B76 (a1 : Int32) (a2 : Int32) (a3 : Int32) (a4 : Int32) (post : Int64 → Mem → Prop) (k32 : Int64 → Int64 → Int32 → Mem → Prop) (k54 : Int64 → Int64 → Int32 → Int64 → Int32 → Mem → Prop) (x5 : Int64) (x7 : Int64) (x9 : Int32) (x10 : Int64) (x12 : Int32) (s0 : Int32) (σ : Mem) : Prop := ((s0 = 0 → qX4_byFails_B95 a1 a2 a3 a4 post k32 k54 x5 x7 x9 x12 s0 x10 (((10 : Int32) - a1).toInt64) σ) ∧ (¬ s0 = 0 → qX4_byFails_B95 a1 a2 a3 a4 post k32 k54 x5 x7 x9 x12 s0 x10 a1.toInt64 σ))
set_option maxRecDepth 20000 in
theorem kX4_byFails_B76 {X : Cx} {G : Gw} (hG : fw_IsM G) (O : fw_Ok X G cX4_byFails 14 RX4 3 75 (some .long)) {a1 : Int32} {a2 : Int32} {a3 : Int32} {a4 : Int32} {post : Int64 → Mem → Prop} {k32 : Int64 → Int64 → Int32 → Mem → Prop} {k54 : Int64 → Int64 → Int32 → Int64 → Int32 → Mem → Prop}  (hk32 : ∀ (x5 : Int64) (x7 : Int64) (x9 : Int32) (σ : Mem), k32 x5 x7 x9 σ → fw_At X G 14 (fw_QL X G post) 32 [(0, .ref (gad G 0)), (1, .int a1), (2, .int a2), (3, .int a3), (4, .int a4), (5, .long x5), (7, .long x7), (9, .int x9)] [] σ) (hk54 : ∀ (x5 : Int64) (x7 : Int64) (x9 : Int32) (x10 : Int64) (x12 : Int32) (σ : Mem), k54 x5 x7 x9 x10 x12 σ → fw_At X G 14 (fw_QL X G post) 54 [(0, .ref (gad G 0)), (1, .int a1), (2, .int a2), (3, .int a3), (4, .int a4), (5, .long x5), (7, .long x7), (9, .int x9), (10, .long x10), (12, .int x12)] [] σ) {x5 : Int64} {x7 : Int64} {x9 : Int32} {x10 : Int64} {x12 : Int32} {s0 : Int32} {σ : Mem} (h : qX4_byFails_B76 a1 a2 a3 a4 post k32 k54 x5 x7 x9 x10 x12 s0 σ) : fw_At X G 14 (fw_QL X G post) 76 [(0, .ref (gad G 0)), (1, .int a1), (2, .int a2), (3, .int a3), (4, .int a4), (5, .long x5), (7, .long x7), (9, .int x9), (10, .long x10), (12, .int x12)] [.int s0] σ := by
  unfold qX4_byFails_B76 at h
  refine fr_istore (pc := 76) O [1, 2, 3, 4, 5, 6, 7, 8, 9, 10, 0] (lv' := [(0, .ref (gad G 0)), (1, .int a1), (2, .int a2), (3, .int a3), (4, .int a4), (5, .long x5), (7, .long x7), (9, .int x9), (10, .long x10), (12, .int x12), (13, .int s0)]) dX4_byFails_76 (by decide) rfl ?_
  refine fr_lload (pc := 78) O 8 dX4_byFails_78 rfl ?_
  refine fr_iload (pc := 80) O 10 dX4_byFails_80 rfl ?_
  refine fr_if_eq (pc := 82) (tgt := 90) O dX4_byFails_82 (by decide) (fun c_82 => ?_) (fun c_82 => ?_)
  · have h := h.1 c_82
    refine fr_bipush (pc := 90) O (v := (10 : Int32)) dX4_byFails_90 (by decide) ?_
    refine fr_iload_n (pc := 92) O 1 dX4_byFails_92 rfl rfl ?_
    refine fr_isub (pc := 93) O dX4_byFails_93 ?_
    refine fr_i2l (pc := 94) O dX4_byFails_94 ?_
    refine fw_sub (lv' := [(0, .ref (gad G 0)), (1, .int a1), (2, .int a2), (3, .int a3), (4, .int a4), (5, .long x5), (7, .long x7), (9, .int x9), (12, .int x12), (13, .int s0)]) [0, 1, 2, 3, 4, 5, 6, 7, 9, 10] rfl ?_
    exact kX4_byFails_B95 hG O hk32 hk54 h
  · have h := h.2 c_82
    refine fr_iload_n (pc := 85) O 1 dX4_byFails_85 rfl rfl ?_
    refine fr_i2l (pc := 86) O dX4_byFails_86 ?_
    refine fr_goto (pc := 87) (tgt := 95) O dX4_byFails_87 (by decide) ?_
    refine fw_sub (lv' := [(0, .ref (gad G 0)), (1, .int a1), (2, .int a2), (3, .int a3), (4, .int a4), (5, .long x5), (7, .long x7), (9, .int x9), (12, .int x12), (13, .int s0)]) [0, 1, 2, 3, 4, 5, 6, 7, 9, 10] rfl ?_
    exact kX4_byFails_B95 hG O hk32 hk54 h
def qX4_byFails_L54 (a1 : Int32) (a2 : Int32) (a3 : Int32) (a4 : Int32) (post : Int64 → Mem → Prop) (k32 : Int64 → Int64 → Int32 → Mem → Prop) (k54 : Int64 → Int64 → Int32 → Int64 → Int32 → Mem → Prop) (x5 : Int64) (x7 : Int64) (x9 : Int32) (x10 : Int64) (x12 : Int32) (σ : Mem) : Prop := ((a2 ≤ x12 → ((a3 = 0 → (qX4_lackThen σ (fun r141 σ141 => ((¬ r141 = 0 → qX4_byFails_B152 a1 a2 a3 a4 post k32 x7 x9 x5 x10 (0 : Int32) σ141) ∧ (r141 = 0 → qX4_byFails_B152 a1 a2 a3 a4 post k32 x7 x9 x5 x10 (1 : Int32) σ141))))) ∧ (¬ a3 = 0 → (vp_in (193 : Int32) 234 ∧ (vp_in (37 : Int32) 234 ∧ qX4_byFails_B152 a1 a2 a3 a4 post k32 x7 x9 x5 x10 ((σ 1 (193 : Int32).toNatClampNeg) - (σ 1 (37 : Int32).toNatClampNeg)) σ))))) ∧ (¬ a2 ≤ x12 → ((¬ ((x9 >>> (x12 &&& 31)) &&& (1 : Int32)) = (1 : Int32) → qX4_byFails_B76 a1 a2 a3 a4 post k32 k54 x5 x7 x9 x10 x12 (0 : Int32) σ) ∧ (((x9 >>> (x12 &&& 31)) &&& (1 : Int32)) = (1 : Int32) → qX4_byFails_B76 a1 a2 a3 a4 post k32 k54 x5 x7 x9 x10 x12 (1 : Int32) σ))))
set_option maxRecDepth 20000 in
theorem kX4_byFails_L54 {X : Cx} {G : Gw} (hG : fw_IsM G) (O : fw_Ok X G cX4_byFails 14 RX4 3 75 (some .long)) {a1 : Int32} {a2 : Int32} {a3 : Int32} {a4 : Int32} {post : Int64 → Mem → Prop} {k32 : Int64 → Int64 → Int32 → Mem → Prop} {k54 : Int64 → Int64 → Int32 → Int64 → Int32 → Mem → Prop}  (hk32 : ∀ (x5 : Int64) (x7 : Int64) (x9 : Int32) (σ : Mem), k32 x5 x7 x9 σ → fw_At X G 14 (fw_QL X G post) 32 [(0, .ref (gad G 0)), (1, .int a1), (2, .int a2), (3, .int a3), (4, .int a4), (5, .long x5), (7, .long x7), (9, .int x9)] [] σ) (hk54 : ∀ (x5 : Int64) (x7 : Int64) (x9 : Int32) (x10 : Int64) (x12 : Int32) (σ : Mem), k54 x5 x7 x9 x10 x12 σ → fw_At X G 14 (fw_QL X G post) 54 [(0, .ref (gad G 0)), (1, .int a1), (2, .int a2), (3, .int a3), (4, .int a4), (5, .long x5), (7, .long x7), (9, .int x9), (10, .long x10), (12, .int x12)] [] σ) {x5 : Int64} {x7 : Int64} {x9 : Int32} {x10 : Int64} {x12 : Int32} {σ : Mem} (h : qX4_byFails_L54 a1 a2 a3 a4 post k32 k54 x5 x7 x9 x10 x12 σ) : fw_At X G 14 (fw_QL X G post) 54 [(0, .ref (gad G 0)), (1, .int a1), (2, .int a2), (3, .int a3), (4, .int a4), (5, .long x5), (7, .long x7), (9, .int x9), (10, .long x10), (12, .int x12)] [] σ := by
  unfold qX4_byFails_L54 at h
  refine fr_iload (pc := 54) O 9 dX4_byFails_54 rfl ?_
  refine fr_iload_n (pc := 56) O 2 dX4_byFails_56 rfl rfl ?_
  refine fr_icmp_ge (pc := 57) (tgt := 113) O dX4_byFails_57 (by decide) (fun c_57 => ?_) (fun c_57 => ?_)
  · have h := h.1 c_57
    refine fr_lload (pc := 113) O 5 dX4_byFails_113 rfl ?_
    refine fr_lload (pc := 115) O 8 dX4_byFails_115 rfl ?_
    refine fr_iload_n (pc := 117) O 3 dX4_byFails_117 rfl rfl ?_
    refine fr_if_eq (pc := 118) (tgt := 140) O dX4_byFails_118 (by decide) (fun c_118 => ?_) (fun c_118 => ?_)
    · have h := h.1 c_118
      refine fr_aload_n (pc := 140) O 0 dX4_byFails_140 rfl rfl ?_
      refine fr_callVI (pc := 141) (st := [.long x10, .long x5]) O (tX4_lackThen X.2.1 hG  h) mt_X4_lackThen mv_X4_lackThen m_953 cl_X4 rfl (sM_0 hG) rfl (by decide) rfl (Nat.le_of_ble_eq_true rfl) dX4_byFails_141 (fun r141 σ141 h => ?_)
      refine fr_if_ne (pc := 144) (tgt := 151) O dX4_byFails_144 (by decide) (fun c_144 => ?_) (fun c_144 => ?_)
      · have h := h.1 c_144
        refine fr_iconst (pc := 151) O (v := (0 : Int32)) dX4_byFails_151 (by decide) ?_
        refine fw_sub (lv' := [(0, .ref (gad G 0)), (1, .int a1), (2, .int a2), (3, .int a3), (4, .int a4), (7, .long x7), (9, .int x9)]) [0, 1, 2, 3, 4, 6, 7] rfl ?_
        exact kX4_byFails_B152 hG O hk32 h
      · have h := h.2 c_144
        refine fr_iconst (pc := 147) O (v := (1 : Int32)) dX4_byFails_147 (by decide) ?_
        refine fr_goto (pc := 148) (tgt := 152) O dX4_byFails_148 (by decide) ?_
        refine fw_sub (lv' := [(0, .ref (gad G 0)), (1, .int a1), (2, .int a2), (3, .int a3), (4, .int a4), (7, .long x7), (9, .int x9)]) [0, 1, 2, 3, 4, 6, 7] rfl ?_
        exact kX4_byFails_B152 hG O hk32 h
    · have h := h.2 c_118
      refine fr_aload_n (pc := 121) O 0 dX4_byFails_121 rfl rfl ?_
      refine fr_get (pc := 122) (k := 0) (v := .ref (gad G 1)) O cl_X4 m_713 (sM_0 hG) (by decide) rfl rfl dX4_byFails_122 ?_
      refine fr_sipush (pc := 125) O (v := (193 : Int32)) dX4_byFails_125 (by decide) ?_
      have hi_128 := h.1
      have h := h.2
      refine fr_iald (pc := 128) O (sM_1 hG) hi_128 dX4_byFails_128 ?_
      refine fr_aload_n (pc := 129) O 0 dX4_byFails_129 rfl rfl ?_
      refine fr_get (pc := 130) (k := 0) (v := .ref (gad G 1)) O cl_X4 m_713 (sM_0 hG) (by decide) rfl rfl dX4_byFails_130 ?_
      refine fr_bipush (pc := 133) O (v := (37 : Int32)) dX4_byFails_133 (by decide) ?_
      have hi_135 := h.1
      have h := h.2
      refine fr_iald (pc := 135) O (sM_1 hG) hi_135 dX4_byFails_135 ?_
      refine fr_isub (pc := 136) O dX4_byFails_136 ?_
      refine fr_goto (pc := 137) (tgt := 152) O dX4_byFails_137 (by decide) ?_
      refine fw_sub (lv' := [(0, .ref (gad G 0)), (1, .int a1), (2, .int a2), (3, .int a3), (4, .int a4), (7, .long x7), (9, .int x9)]) [0, 1, 2, 3, 4, 6, 7] rfl ?_
      exact kX4_byFails_B152 hG O hk32 h
  · have h := h.2 c_57
    refine fr_iload (pc := 60) O 7 dX4_byFails_60 rfl ?_
    refine fr_iload (pc := 62) O 9 dX4_byFails_62 rfl ?_
    refine fr_ishr (pc := 64) O dX4_byFails_64 ?_
    refine fr_iconst (pc := 65) O (v := (1 : Int32)) dX4_byFails_65 (by decide) ?_
    refine fr_iand (pc := 66) O dX4_byFails_66 ?_
    refine fr_iconst (pc := 67) O (v := (1 : Int32)) dX4_byFails_67 (by decide) ?_
    refine fr_icmp_ne (pc := 68) (tgt := 75) O dX4_byFails_68 (by decide) (fun c_68 => ?_) (fun c_68 => ?_)
    · have h := h.1 c_68
      refine fr_iconst (pc := 75) O (v := (0 : Int32)) dX4_byFails_75 (by decide) ?_
      exact kX4_byFails_B76 hG O hk32 hk54 h
    · have h := h.2 c_68
      refine fr_iconst (pc := 71) O (v := (1 : Int32)) dX4_byFails_71 (by decide) ?_
      refine fr_goto (pc := 72) (tgt := 76) O dX4_byFails_72 (by decide) ?_
      exact kX4_byFails_B76 hG O hk32 hk54 h
set_option maxRecDepth 20000 in
theorem kX4_byFails_L54w {X : Cx} {G : Gw} (hG : fw_IsM G) (O : fw_Ok X G cX4_byFails 14 RX4 3 75 (some .long)) {a1 : Int32} {a2 : Int32} {a3 : Int32} {a4 : Int32} {post : Int64 → Mem → Prop} {k32 : Int64 → Int64 → Int32 → Mem → Prop}  (hk32 : ∀ (x5 : Int64) (x7 : Int64) (x9 : Int32) (σ : Mem), k32 x5 x7 x9 σ → fw_At X G 14 (fw_QL X G post) 32 [(0, .ref (gad G 0)), (1, .int a1), (2, .int a2), (3, .int a3), (4, .int a4), (5, .long x5), (7, .long x7), (9, .int x9)] [] σ) {n9 : Nat} {x5 : Int64} {x7 : Int64} {x9 : Int32} {x10 : Int64} {x12 : Int32} {σ : Mem} (h : it5 (qX4_byFails_L54 a1 a2 a3 a4 post k32) n9 x5 x7 x9 x10 x12 σ) : fw_At X G 14 (fw_QL X G post) 54 [(0, .ref (gad G 0)), (1, .int a1), (2, .int a2), (3, .int a3), (4, .int a4), (5, .long x5), (7, .long x7), (9, .int x9), (10, .long x10), (12, .int x12)] [] σ :=
  it5_walk (T := fun x5 x7 x9 x10 x12 σ => fw_At X G 14 (fw_QL X G post) 54 [(0, .ref (gad G 0)), (1, .int a1), (2, .int a2), (3, .int a3), (4, .int a4), (5, .long x5), (7, .long x7), (9, .int x9), (10, .long x10), (12, .int x12)] [] σ) (fun k54 hk54 x5 x7 x9 x10 x12 σ h => kX4_byFails_L54 hG O hk32 hk54 h) n9 x5 x7 x9 x10 x12 σ h
def qX4_byFails_L32 (a1 : Int32) (a2 : Int32) (a3 : Int32) (a4 : Int32) (post : Int64 → Mem → Prop) (k32 : Int64 → Int64 → Int32 → Mem → Prop) (x5 : Int64) (x7 : Int64) (x9 : Int32) (σ : Mem) : Prop := ((((1 : Int32) <<< (a2 &&& 31)) ≤ x9 → (qX4_lowest x5 x7 a4 σ (fun r169 σ169 => post r169 σ169))) ∧ (¬ ((1 : Int32) <<< (a2 &&& 31)) ≤ x9 → (qX4_copies (0 : Int32) (156 : Int32) σ (fun σ48 => ∃ n9, it5 (qX4_byFails_L54 a1 a2 a3 a4 post k32) n9 x5 x7 x9 (1 : Int64) (0 : Int32) σ48))))
set_option maxRecDepth 20000 in
theorem kX4_byFails_L32 {X : Cx} {G : Gw} (hG : fw_IsM G) (O : fw_Ok X G cX4_byFails 14 RX4 3 75 (some .long)) {a1 : Int32} {a2 : Int32} {a3 : Int32} {a4 : Int32} {post : Int64 → Mem → Prop} {k32 : Int64 → Int64 → Int32 → Mem → Prop}  (hk32 : ∀ (x5 : Int64) (x7 : Int64) (x9 : Int32) (σ : Mem), k32 x5 x7 x9 σ → fw_At X G 14 (fw_QL X G post) 32 [(0, .ref (gad G 0)), (1, .int a1), (2, .int a2), (3, .int a3), (4, .int a4), (5, .long x5), (7, .long x7), (9, .int x9)] [] σ) {x5 : Int64} {x7 : Int64} {x9 : Int32} {σ : Mem} (h : qX4_byFails_L32 a1 a2 a3 a4 post k32 x5 x7 x9 σ) : fw_At X G 14 (fw_QL X G post) 32 [(0, .ref (gad G 0)), (1, .int a1), (2, .int a2), (3, .int a3), (4, .int a4), (5, .long x5), (7, .long x7), (9, .int x9)] [] σ := by
  unfold qX4_byFails_L32 at h
  refine fr_iload (pc := 32) O 7 dX4_byFails_32 rfl ?_
  refine fr_iconst (pc := 34) O (v := (1 : Int32)) dX4_byFails_34 (by decide) ?_
  refine fr_iload_n (pc := 35) O 2 dX4_byFails_35 rfl rfl ?_
  refine fr_ishl (pc := 36) O dX4_byFails_36 ?_
  refine fr_icmp_ge (pc := 37) (tgt := 163) O dX4_byFails_37 (by decide) (fun c_37 => ?_) (fun c_37 => ?_)
  · have h := h.1 c_37
    refine fr_lload (pc := 163) O 5 dX4_byFails_163 rfl ?_
    refine fr_lload (pc := 165) O 6 dX4_byFails_165 rfl ?_
    refine fr_iload (pc := 167) O 4 dX4_byFails_167 rfl ?_
    refine fr_callSL (pc := 169) (st := []) O (tX4_lowest X.2.1 hG  h) mt_X4_lowest m_1012 m_1011 rfl (by decide) rfl (Nat.le_of_ble_eq_true rfl) dX4_byFails_169 (fun r169 σ169 h => ?_)
    exact fr_lret (pc := 172) O dX4_byFails_172 h
  · have h := h.2 c_37
    refine fr_lconst (pc := 40) O (v := (1 : Int64)) dX4_byFails_40 (by decide) ?_
    refine fr_lstore (pc := 41) O [1, 2, 3, 4, 5, 6, 7, 8, 0] (lv' := [(0, .ref (gad G 0)), (1, .int a1), (2, .int a2), (3, .int a3), (4, .int a4), (5, .long x5), (7, .long x7), (9, .int x9), (10, .long (1 : Int64))]) dX4_byFails_41 (by decide) rfl ?_
    refine fr_aload_n (pc := 43) O 0 dX4_byFails_43 rfl rfl ?_
    refine fr_iconst (pc := 44) O (v := (0 : Int32)) dX4_byFails_44 (by decide) ?_
    refine fr_sipush (pc := 45) O (v := (156 : Int32)) dX4_byFails_45 (by decide) ?_
    refine fr_callVV (pc := 48) (st := []) O (tX4_copies X.2.1 hG  h) mt_X4_copies mv_X4_copies m_949 cl_X4 rfl (sM_0 hG) rfl (by decide) rfl (Nat.le_of_ble_eq_true rfl) dX4_byFails_48 (fun σ48 h => ?_)
    refine fr_iconst (pc := 51) O (v := (0 : Int32)) dX4_byFails_51 (by decide) ?_
    refine fr_istore (pc := 52) O [1, 2, 3, 4, 5, 6, 7, 8, 9, 0] (lv' := [(0, .ref (gad G 0)), (1, .int a1), (2, .int a2), (3, .int a3), (4, .int a4), (5, .long x5), (7, .long x7), (9, .int x9), (10, .long (1 : Int64)), (12, .int (0 : Int32))]) dX4_byFails_52 (by decide) rfl ?_
    obtain ⟨n9, h⟩ := h
    exact kX4_byFails_L54w hG O hk32 h
set_option maxRecDepth 20000 in
theorem kX4_byFails_L32w {X : Cx} {G : Gw} (hG : fw_IsM G) (O : fw_Ok X G cX4_byFails 14 RX4 3 75 (some .long)) {a1 : Int32} {a2 : Int32} {a3 : Int32} {a4 : Int32} {post : Int64 → Mem → Prop}   {n9 : Nat} {x5 : Int64} {x7 : Int64} {x9 : Int32} {σ : Mem} (h : it3 (qX4_byFails_L32 a1 a2 a3 a4 post) n9 x5 x7 x9 σ) : fw_At X G 14 (fw_QL X G post) 32 [(0, .ref (gad G 0)), (1, .int a1), (2, .int a2), (3, .int a3), (4, .int a4), (5, .long x5), (7, .long x7), (9, .int x9)] [] σ :=
  it3_walk (T := fun x5 x7 x9 σ => fw_At X G 14 (fw_QL X G post) 32 [(0, .ref (gad G 0)), (1, .int a1), (2, .int a2), (3, .int a3), (4, .int a4), (5, .long x5), (7, .long x7), (9, .int x9)] [] σ) (fun k32 hk32 x5 x7 x9 σ h => kX4_byFails_L32 hG O hk32 h) n9 x5 x7 x9 σ h
def qX4_byFails_L9 (a1 : Int32) (a2 : Int32) (a3 : Int32) (a4 : Int32) (post : Int64 → Mem → Prop) (k9 : Int64 → Int64 → Int32 → Mem → Prop) (x5 : Int64) (x7 : Int64) (x9 : Int32) (σ : Mem) : Prop := ((a2 ≤ x9 → ∃ n9, it3 (qX4_byFails_L32 a1 a2 a3 a4 post) n9 x5 x7 (0 : Int32) σ) ∧ (¬ a2 ≤ x9 → (∀ y7_21 : Int64, y7_21 = x7 * (10 : Int64) → (∀ y9_23 : Int32, y9_23 = x9 + (1 : Int32) → k9 x5 y7_21 y9_23 σ))))
set_option maxRecDepth 20000 in
theorem kX4_byFails_L9 {X : Cx} {G : Gw} (hG : fw_IsM G) (O : fw_Ok X G cX4_byFails 14 RX4 3 75 (some .long)) {a1 : Int32} {a2 : Int32} {a3 : Int32} {a4 : Int32} {post : Int64 → Mem → Prop} {k9 : Int64 → Int64 → Int32 → Mem → Prop}  (hk9 : ∀ (x5 : Int64) (x7 : Int64) (x9 : Int32) (σ : Mem), k9 x5 x7 x9 σ → fw_At X G 14 (fw_QL X G post) 9 [(0, .ref (gad G 0)), (1, .int a1), (2, .int a2), (3, .int a3), (4, .int a4), (5, .long x5), (7, .long x7), (9, .int x9)] [] σ) {x5 : Int64} {x7 : Int64} {x9 : Int32} {σ : Mem} (h : qX4_byFails_L9 a1 a2 a3 a4 post k9 x5 x7 x9 σ) : fw_At X G 14 (fw_QL X G post) 9 [(0, .ref (gad G 0)), (1, .int a1), (2, .int a2), (3, .int a3), (4, .int a4), (5, .long x5), (7, .long x7), (9, .int x9)] [] σ := by
  unfold qX4_byFails_L9 at h
  refine fr_iload (pc := 9) O 7 dX4_byFails_9 rfl ?_
  refine fr_iload_n (pc := 11) O 2 dX4_byFails_11 rfl rfl ?_
  refine fr_icmp_ge (pc := 12) (tgt := 29) O dX4_byFails_12 (by decide) (fun c_12 => ?_) (fun c_12 => ?_)
  · have h := h.1 c_12
    refine fr_iconst (pc := 29) O (v := (0 : Int32)) dX4_byFails_29 (by decide) ?_
    refine fr_istore (pc := 30) O [1, 2, 3, 4, 5, 6, 7, 0] (lv' := [(0, .ref (gad G 0)), (1, .int a1), (2, .int a2), (3, .int a3), (4, .int a4), (5, .long x5), (7, .long x7), (9, .int (0 : Int32))]) dX4_byFails_30 (by decide) rfl ?_
    obtain ⟨n9, h⟩ := h
    exact kX4_byFails_L32w hG O  h
  · have h := h.2 c_12
    refine fr_lload (pc := 15) O 6 dX4_byFails_15 rfl ?_
    refine fr_ldc2 (pc := 17) O m_1005 dX4_byFails_17 ?_
    refine fr_lmul (pc := 20) O dX4_byFails_20 ?_
    refine fr_nml (fun y7_21 e_y7_21 => ?_)
    have h := h y7_21 e_y7_21
    refine fr_lstore (pc := 21) O [1, 2, 3, 4, 5, 6, 0, 7] (lv' := [(0, .ref (gad G 0)), (1, .int a1), (2, .int a2), (3, .int a3), (4, .int a4), (5, .long x5), (7, .long y7_21), (9, .int x9)]) dX4_byFails_21 (by decide) rfl ?_
    refine fr_iinc (pc := 23) O 7 [1, 2, 3, 4, 5, 6, 7, 0] (w := (1 : Int32)) (lvF := fun y9_23 => [(0, .ref (gad G 0)), (1, .int a1), (2, .int a2), (3, .int a3), (4, .int a4), (5, .long x5), (7, .long y7_21), (9, .int y9_23)]) dX4_byFails_23 rfl (by decide) (by decide) (fun _ => rfl) (fun y9_23 e_y9_23 => ?_)
    have h := h y9_23 e_y9_23
    refine fr_goto (pc := 26) (tgt := 9) O dX4_byFails_26 (by decide) ?_
    exact hk9 _ _ _ _ h
set_option maxRecDepth 20000 in
theorem kX4_byFails_L9w {X : Cx} {G : Gw} (hG : fw_IsM G) (O : fw_Ok X G cX4_byFails 14 RX4 3 75 (some .long)) {a1 : Int32} {a2 : Int32} {a3 : Int32} {a4 : Int32} {post : Int64 → Mem → Prop}   {n9 : Nat} {x5 : Int64} {x7 : Int64} {x9 : Int32} {σ : Mem} (h : it3 (qX4_byFails_L9 a1 a2 a3 a4 post) n9 x5 x7 x9 σ) : fw_At X G 14 (fw_QL X G post) 9 [(0, .ref (gad G 0)), (1, .int a1), (2, .int a2), (3, .int a3), (4, .int a4), (5, .long x5), (7, .long x7), (9, .int x9)] [] σ :=
  it3_walk (T := fun x5 x7 x9 σ => fw_At X G 14 (fw_QL X G post) 9 [(0, .ref (gad G 0)), (1, .int a1), (2, .int a2), (3, .int a3), (4, .int a4), (5, .long x5), (7, .long x7), (9, .int x9)] [] σ) (fun k9 hk9 x5 x7 x9 σ h => kX4_byFails_L9 hG O hk9 h) n9 x5 x7 x9 σ h
def qX4_byFails (a1 : Int32) (a2 : Int32) (a3 : Int32) (a4 : Int32) (σ : Mem) (post : Int64 → Mem → Prop) : Prop := ∃ n9, it3 (qX4_byFails_L9 a1 a2 a3 a4 post) n9 (0 : Int64) (1 : Int64) (0 : Int32) σ
set_option maxRecDepth 20000 in
theorem kX4_byFails {X : Cx} {G : Gw} (hG : fw_IsM G) (O : fw_Ok X G cX4_byFails 14 RX4 3 75 (some .long)) {a1 : Int32} {a2 : Int32} {a3 : Int32} {a4 : Int32}  {σ : Mem} {post : Int64 → Mem → Prop} (h : qX4_byFails a1 a2 a3 a4 σ post) : fw_At X G 14 (fw_QL X G post) 0 [(0, .ref (gad G 0)), (1, .int a1), (2, .int a2), (3, .int a3), (4, .int a4)] [] σ := by
  unfold qX4_byFails at h
  refine fr_lconst (pc := 0) O (v := (0 : Int64)) dX4_byFails_0 (by decide) ?_
  refine fr_lstore (pc := 1) O [1, 2, 3, 4, 5, 0] (lv' := [(0, .ref (gad G 0)), (1, .int a1), (2, .int a2), (3, .int a3), (4, .int a4), (5, .long (0 : Int64))]) dX4_byFails_1 (by decide) rfl ?_
  refine fr_lconst (pc := 3) O (v := (1 : Int64)) dX4_byFails_3 (by decide) ?_
  refine fr_lstore (pc := 4) O [1, 2, 3, 4, 5, 6, 0] (lv' := [(0, .ref (gad G 0)), (1, .int a1), (2, .int a2), (3, .int a3), (4, .int a4), (5, .long (0 : Int64)), (7, .long (1 : Int64))]) dX4_byFails_4 (by decide) rfl ?_
  refine fr_iconst (pc := 6) O (v := (0 : Int32)) dX4_byFails_6 (by decide) ?_
  refine fr_istore (pc := 7) O [1, 2, 3, 4, 5, 6, 7, 0] (lv' := [(0, .ref (gad G 0)), (1, .int a1), (2, .int a2), (3, .int a3), (4, .int a4), (5, .long (0 : Int64)), (7, .long (1 : Int64)), (9, .int (0 : Int32))]) dX4_byFails_7 (by decide) rfl ?_
  obtain ⟨n9, h⟩ := h
  exact kX4_byFails_L9w hG O  h
theorem tX4_byFails (l : Launch) {G : Gw} (hG : fw_IsM G) {a1 : Int32} {a2 : Int32} {a3 : Int32} {a4 : Int32}  {σ : Mem} {post : Int64 → Mem → Prop} (h : qX4_byFails a1 a2 a3 a4 σ post) : fw_CL l G yX4_byFails cX4_byFails 14 3 75 [.ref (gad G 0), .int a1, .int a2, .int a3, .int a4] σ post := fw_ofL (sok_M hG) (by decide) (Nat.le_of_ble_eq_true rfl) (fun X O => kX4_byFails hG O  h)
def qX4_luck_B48 (a1 : Int32) (a2 : Int32) (a3 : Int32) (post : Int64 → Mem → Prop) (s0 : Int64) (σ : Mem) : Prop := post s0 σ
set_option maxRecDepth 20000 in
theorem kX4_luck_B48 {X : Cx} {G : Gw} (hG : fw_IsM G) (O : fw_Ok X G cX4_luck 4 RX4 4 108 (some .long)) {a1 : Int32} {a2 : Int32} {a3 : Int32} {post : Int64 → Mem → Prop}   {s0 : Int64} {σ : Mem} (h : qX4_luck_B48 a1 a2 a3 post s0 σ) : fw_At X G 4 (fw_QL X G post) 48 [(0, .ref (gad G 0)), (1, .int a1), (2, .int a2), (3, .int a3)] [.long s0] σ := by
  unfold qX4_luck_B48 at h
  exact fr_lret (pc := 48) O dX4_luck_48 h
def qX4_luck_B45 (a1 : Int32) (a2 : Int32) (a3 : Int32) (post : Int64 → Mem → Prop) (σ : Mem) : Prop := qX4_luck_B48 a1 a2 a3 post (-1 : Int64) σ
set_option maxRecDepth 20000 in
theorem kX4_luck_B45 {X : Cx} {G : Gw} (hG : fw_IsM G) (O : fw_Ok X G cX4_luck 4 RX4 4 108 (some .long)) {a1 : Int32} {a2 : Int32} {a3 : Int32} {post : Int64 → Mem → Prop}    {σ : Mem} (h : qX4_luck_B45 a1 a2 a3 post σ) : fw_At X G 4 (fw_QL X G post) 45 [(0, .ref (gad G 0)), (1, .int a1), (2, .int a2), (3, .int a3)] [] σ := by
  unfold qX4_luck_B45 at h
  refine fr_ldc2 (pc := 45) O m_1014 dX4_luck_45 ?_
  exact kX4_luck_B48 hG O  h
def qX4_luck (a1 : Int32) (a2 : Int32) (a3 : Int32) (σ : Mem) (post : Int64 → Mem → Prop) : Prop := (qX4_in a1.toInt64 (0 : Int64) (10 : Int64) σ (fun r6 σ6 => ((r6 = 0 → qX4_luck_B45 a1 a2 a3 post σ6) ∧ (¬ r6 = 0 → (qX4_in a2.toInt64 (0 : Int64) (8 : Int64) σ6 (fun r18 σ18 => ((r18 = 0 → qX4_luck_B45 a1 a2 a3 post σ18) ∧ (¬ r18 = 0 → (qX4_in a3.toInt64 (0 : Int64) (1 : Int64) σ18 (fun r28 σ28 => ((r28 = 0 → qX4_luck_B45 a1 a2 a3 post σ28) ∧ (¬ r28 = 0 → (qX4_byFails a1 a2 (0 : Int32) a3 σ28 (fun r39 σ39 => qX4_luck_B48 a1 a2 a3 post r39 σ39))))))))))))))
set_option maxRecDepth 20000 in
theorem kX4_luck {X : Cx} {G : Gw} (hG : fw_IsM G) (O : fw_Ok X G cX4_luck 4 RX4 4 108 (some .long)) {a1 : Int32} {a2 : Int32} {a3 : Int32}  {σ : Mem} {post : Int64 → Mem → Prop} (h : qX4_luck a1 a2 a3 σ post) : fw_At X G 4 (fw_QL X G post) 0 [(0, .ref (gad G 0)), (1, .int a1), (2, .int a2), (3, .int a3)] [] σ := by
  unfold qX4_luck at h
  refine fr_iload_n (pc := 0) O 1 dX4_luck_0 rfl rfl ?_
  refine fr_i2l (pc := 1) O dX4_luck_1 ?_
  refine fr_lconst (pc := 2) O (v := (0 : Int64)) dX4_luck_2 (by decide) ?_
  refine fr_ldc2 (pc := 3) O m_1005 dX4_luck_3 ?_
  refine fr_callSI (pc := 6) (st := []) O (tX4_in X.2.1 hG  h) mt_X4_in m_798 m_797 rfl (by decide) rfl (Nat.le_of_ble_eq_true rfl) dX4_luck_6 (fun r6 σ6 h => ?_)
  refine fr_if_eq (pc := 9) (tgt := 45) O dX4_luck_9 (by decide) (fun c_9 => ?_) (fun c_9 => ?_)
  · have h := h.1 c_9
    exact kX4_luck_B45 hG O  h
  · have h := h.2 c_9
    refine fr_iload_n (pc := 12) O 2 dX4_luck_12 rfl rfl ?_
    refine fr_i2l (pc := 13) O dX4_luck_13 ?_
    refine fr_lconst (pc := 14) O (v := (0 : Int64)) dX4_luck_14 (by decide) ?_
    refine fr_ldc2 (pc := 15) O m_1006 dX4_luck_15 ?_
    refine fr_callSI (pc := 18) (st := []) O (tX4_in X.2.1 hG  h) mt_X4_in m_798 m_797 rfl (by decide) rfl (Nat.le_of_ble_eq_true rfl) dX4_luck_18 (fun r18 σ18 h => ?_)
    refine fr_if_eq (pc := 21) (tgt := 45) O dX4_luck_21 (by decide) (fun c_21 => ?_) (fun c_21 => ?_)
    · have h := h.1 c_21
      exact kX4_luck_B45 hG O  h
    · have h := h.2 c_21
      refine fr_iload_n (pc := 24) O 3 dX4_luck_24 rfl rfl ?_
      refine fr_i2l (pc := 25) O dX4_luck_25 ?_
      refine fr_lconst (pc := 26) O (v := (0 : Int64)) dX4_luck_26 (by decide) ?_
      refine fr_lconst (pc := 27) O (v := (1 : Int64)) dX4_luck_27 (by decide) ?_
      refine fr_callSI (pc := 28) (st := []) O (tX4_in X.2.1 hG  h) mt_X4_in m_798 m_797 rfl (by decide) rfl (Nat.le_of_ble_eq_true rfl) dX4_luck_28 (fun r28 σ28 h => ?_)
      refine fr_if_eq (pc := 31) (tgt := 45) O dX4_luck_31 (by decide) (fun c_31 => ?_) (fun c_31 => ?_)
      · have h := h.1 c_31
        exact kX4_luck_B45 hG O  h
      · have h := h.2 c_31
        refine fr_aload_n (pc := 34) O 0 dX4_luck_34 rfl rfl ?_
        refine fr_iload_n (pc := 35) O 1 dX4_luck_35 rfl rfl ?_
        refine fr_iload_n (pc := 36) O 2 dX4_luck_36 rfl rfl ?_
        refine fr_iconst (pc := 37) O (v := (0 : Int32)) dX4_luck_37 (by decide) ?_
        refine fr_iload_n (pc := 38) O 3 dX4_luck_38 rfl rfl ?_
        refine fr_callVL (pc := 39) (st := []) O (tX4_byFails X.2.1 hG  h) mt_X4_byFails mv_X4_byFails m_1007 cl_X4 rfl (sM_0 hG) rfl (by decide) rfl (Nat.le_of_ble_eq_true rfl) dX4_luck_39 (fun r39 σ39 h => ?_)
        refine fr_goto (pc := 42) (tgt := 48) O dX4_luck_42 (by decide) ?_
        exact kX4_luck_B48 hG O  h
theorem tX4_luck (l : Launch) {G : Gw} (hG : fw_IsM G) {a1 : Int32} {a2 : Int32} {a3 : Int32}  {σ : Mem} {post : Int64 → Mem → Prop} (h : qX4_luck a1 a2 a3 σ post) : fw_CL l G yX4_luck cX4_luck 4 4 108 [.ref (gad G 0), .int a1, .int a2, .int a3] σ post := fw_ofL (sok_M hG) (by decide) (Nat.le_of_ble_eq_true rfl) (fun X O => kX4_luck hG O  h)
def qX4_mean_B48 (a1 : Int32) (a2 : Int32) (a3 : Int32) (post : Int64 → Mem → Prop) (s0 : Int64) (σ : Mem) : Prop := post s0 σ
set_option maxRecDepth 20000 in
theorem kX4_mean_B48 {X : Cx} {G : Gw} (hG : fw_IsM G) (O : fw_Ok X G cX4_mean 4 RX4 4 108 (some .long)) {a1 : Int32} {a2 : Int32} {a3 : Int32} {post : Int64 → Mem → Prop}   {s0 : Int64} {σ : Mem} (h : qX4_mean_B48 a1 a2 a3 post s0 σ) : fw_At X G 4 (fw_QL X G post) 48 [(0, .ref (gad G 0)), (1, .int a1), (2, .int a2), (3, .int a3)] [.long s0] σ := by
  unfold qX4_mean_B48 at h
  exact fr_lret (pc := 48) O dX4_mean_48 h
def qX4_mean_B45 (a1 : Int32) (a2 : Int32) (a3 : Int32) (post : Int64 → Mem → Prop) (σ : Mem) : Prop := qX4_mean_B48 a1 a2 a3 post (-1 : Int64) σ
set_option maxRecDepth 20000 in
theorem kX4_mean_B45 {X : Cx} {G : Gw} (hG : fw_IsM G) (O : fw_Ok X G cX4_mean 4 RX4 4 108 (some .long)) {a1 : Int32} {a2 : Int32} {a3 : Int32} {post : Int64 → Mem → Prop}    {σ : Mem} (h : qX4_mean_B45 a1 a2 a3 post σ) : fw_At X G 4 (fw_QL X G post) 45 [(0, .ref (gad G 0)), (1, .int a1), (2, .int a2), (3, .int a3)] [] σ := by
  unfold qX4_mean_B45 at h
  refine fr_ldc2 (pc := 45) O m_1014 dX4_mean_45 ?_
  exact kX4_mean_B48 hG O  h
def qX4_mean (a1 : Int32) (a2 : Int32) (a3 : Int32) (σ : Mem) (post : Int64 → Mem → Prop) : Prop := (qX4_in a1.toInt64 (0 : Int64) (10 : Int64) σ (fun r6 σ6 => ((r6 = 0 → qX4_mean_B45 a1 a2 a3 post σ6) ∧ (¬ r6 = 0 → (qX4_in a2.toInt64 (0 : Int64) (8 : Int64) σ6 (fun r18 σ18 => ((r18 = 0 → qX4_mean_B45 a1 a2 a3 post σ18) ∧ (¬ r18 = 0 → (qX4_in a3.toInt64 (0 : Int64) (1 : Int64) σ18 (fun r28 σ28 => ((r28 = 0 → qX4_mean_B45 a1 a2 a3 post σ28) ∧ (¬ r28 = 0 → (qX4_byFails a1 a2 (1 : Int32) a3 σ28 (fun r39 σ39 => qX4_mean_B48 a1 a2 a3 post r39 σ39))))))))))))))
set_option maxRecDepth 20000 in
theorem kX4_mean {X : Cx} {G : Gw} (hG : fw_IsM G) (O : fw_Ok X G cX4_mean 4 RX4 4 108 (some .long)) {a1 : Int32} {a2 : Int32} {a3 : Int32}  {σ : Mem} {post : Int64 → Mem → Prop} (h : qX4_mean a1 a2 a3 σ post) : fw_At X G 4 (fw_QL X G post) 0 [(0, .ref (gad G 0)), (1, .int a1), (2, .int a2), (3, .int a3)] [] σ := by
  unfold qX4_mean at h
  refine fr_iload_n (pc := 0) O 1 dX4_mean_0 rfl rfl ?_
  refine fr_i2l (pc := 1) O dX4_mean_1 ?_
  refine fr_lconst (pc := 2) O (v := (0 : Int64)) dX4_mean_2 (by decide) ?_
  refine fr_ldc2 (pc := 3) O m_1005 dX4_mean_3 ?_
  refine fr_callSI (pc := 6) (st := []) O (tX4_in X.2.1 hG  h) mt_X4_in m_798 m_797 rfl (by decide) rfl (Nat.le_of_ble_eq_true rfl) dX4_mean_6 (fun r6 σ6 h => ?_)
  refine fr_if_eq (pc := 9) (tgt := 45) O dX4_mean_9 (by decide) (fun c_9 => ?_) (fun c_9 => ?_)
  · have h := h.1 c_9
    exact kX4_mean_B45 hG O  h
  · have h := h.2 c_9
    refine fr_iload_n (pc := 12) O 2 dX4_mean_12 rfl rfl ?_
    refine fr_i2l (pc := 13) O dX4_mean_13 ?_
    refine fr_lconst (pc := 14) O (v := (0 : Int64)) dX4_mean_14 (by decide) ?_
    refine fr_ldc2 (pc := 15) O m_1006 dX4_mean_15 ?_
    refine fr_callSI (pc := 18) (st := []) O (tX4_in X.2.1 hG  h) mt_X4_in m_798 m_797 rfl (by decide) rfl (Nat.le_of_ble_eq_true rfl) dX4_mean_18 (fun r18 σ18 h => ?_)
    refine fr_if_eq (pc := 21) (tgt := 45) O dX4_mean_21 (by decide) (fun c_21 => ?_) (fun c_21 => ?_)
    · have h := h.1 c_21
      exact kX4_mean_B45 hG O  h
    · have h := h.2 c_21
      refine fr_iload_n (pc := 24) O 3 dX4_mean_24 rfl rfl ?_
      refine fr_i2l (pc := 25) O dX4_mean_25 ?_
      refine fr_lconst (pc := 26) O (v := (0 : Int64)) dX4_mean_26 (by decide) ?_
      refine fr_lconst (pc := 27) O (v := (1 : Int64)) dX4_mean_27 (by decide) ?_
      refine fr_callSI (pc := 28) (st := []) O (tX4_in X.2.1 hG  h) mt_X4_in m_798 m_797 rfl (by decide) rfl (Nat.le_of_ble_eq_true rfl) dX4_mean_28 (fun r28 σ28 h => ?_)
      refine fr_if_eq (pc := 31) (tgt := 45) O dX4_mean_31 (by decide) (fun c_31 => ?_) (fun c_31 => ?_)
      · have h := h.1 c_31
        exact kX4_mean_B45 hG O  h
      · have h := h.2 c_31
        refine fr_aload_n (pc := 34) O 0 dX4_mean_34 rfl rfl ?_
        refine fr_iload_n (pc := 35) O 1 dX4_mean_35 rfl rfl ?_
        refine fr_iload_n (pc := 36) O 2 dX4_mean_36 rfl rfl ?_
        refine fr_iconst (pc := 37) O (v := (1 : Int32)) dX4_mean_37 (by decide) ?_
        refine fr_iload_n (pc := 38) O 3 dX4_mean_38 rfl rfl ?_
        refine fr_callVL (pc := 39) (st := []) O (tX4_byFails X.2.1 hG  h) mt_X4_byFails mv_X4_byFails m_1007 cl_X4 rfl (sM_0 hG) rfl (by decide) rfl (Nat.le_of_ble_eq_true rfl) dX4_mean_39 (fun r39 σ39 h => ?_)
        refine fr_goto (pc := 42) (tgt := 48) O dX4_mean_42 (by decide) ?_
        exact kX4_mean_B48 hG O  h
theorem tX4_mean (l : Launch) {G : Gw} (hG : fw_IsM G) {a1 : Int32} {a2 : Int32} {a3 : Int32}  {σ : Mem} {post : Int64 → Mem → Prop} (h : qX4_mean a1 a2 a3 σ post) : fw_CL l G yX4_mean cX4_mean 4 4 108 [.ref (gad G 0), .int a1, .int a2, .int a3] σ post := fw_ofL (sok_M hG) (by decide) (Nat.le_of_ble_eq_true rfl) (fun X O => kX4_mean hG O  h)
def qX4_see_B32 (a1 : Int32) (a2 : Int32) (a3 : Int32) (post : Int32 → Mem → Prop) (σ : Mem) : Prop := post (-1 : Int32) σ
set_option maxRecDepth 20000 in
theorem kX4_see_B32 {X : Cx} {G : Gw} (hG : fw_IsM G) (O : fw_Ok X G cX4_see 4 RX4 2 46 (some .int)) {a1 : Int32} {a2 : Int32} {a3 : Int32} {post : Int32 → Mem → Prop}    {σ : Mem} (h : qX4_see_B32 a1 a2 a3 post σ) : fw_At X G 4 (fw_QI X G post) 32 [(0, .ref (gad G 0)), (1, .int a1), (2, .int a2), (3, .int a3)] [] σ := by
  unfold qX4_see_B32 at h
  refine fr_iconst (pc := 32) O (v := (-1 : Int32)) dX4_see_32 (by decide) ?_
  exact fr_iret (pc := 33) O dX4_see_33 h
def qX4_see (a1 : Int32) (a2 : Int32) (a3 : Int32) (σ : Mem) (post : Int32 → Mem → Prop) : Prop := (qX4_in a1.toInt64 (0 : Int64) (40 : Int64) σ (fun r6 σ6 => ((r6 = 0 → qX4_see_B32 a1 a2 a3 post σ6) ∧ (¬ r6 = 0 → (qX4_isWheel a2 σ6 (fun r14 σ14 => ((r14 = 0 → qX4_see_B32 a1 a2 a3 post σ14) ∧ (¬ r14 = 0 → (qX4_in a3.toInt64 (0 : Int64) (9999999 : Int64) σ14 (fun r26 σ26 => ((¬ r26 = 0 → ((¬ (σ26 0 19) = (6 : Int32) → (vp_in ((3 : Int32) * (σ26 0 19)) 18 ∧ (∀ σ57 : Mem, σ57 = up2 σ26 6 ((3 : Int32) * (σ26 0 19)).toNatClampNeg a1 → (vp_in (((3 : Int32) * (σ57 0 19)) + (1 : Int32)) 18 ∧ (∀ σ71 : Mem, σ71 = up2 σ57 6 (((3 : Int32) * (σ57 0 19)) + (1 : Int32)).toNatClampNeg a2 → (vp_in (((3 : Int32) * (σ71 0 19)) + (2 : Int32)) 18 ∧ (∀ σ85 : Mem, σ85 = up2 σ71 6 (((3 : Int32) * (σ71 0 19)) + (2 : Int32)).toNatClampNeg a3 → (∀ σ93 : Mem, σ93 = up2 σ85 0 19 ((σ85 0 19) + (1 : Int32)) → post (σ93 0 19) σ93)))))))) ∧ ((σ26 0 19) = (6 : Int32) → post (-3 : Int32) σ26))) ∧ (r26 = 0 → qX4_see_B32 a1 a2 a3 post σ26))))))))))))
set_option maxRecDepth 20000 in
theorem kX4_see {X : Cx} {G : Gw} (hG : fw_IsM G) (O : fw_Ok X G cX4_see 4 RX4 2 46 (some .int)) {a1 : Int32} {a2 : Int32} {a3 : Int32}  {σ : Mem} {post : Int32 → Mem → Prop} (h : qX4_see a1 a2 a3 σ post) : fw_At X G 4 (fw_QI X G post) 0 [(0, .ref (gad G 0)), (1, .int a1), (2, .int a2), (3, .int a3)] [] σ := by
  unfold qX4_see at h
  refine fr_iload_n (pc := 0) O 1 dX4_see_0 rfl rfl ?_
  refine fr_i2l (pc := 1) O dX4_see_1 ?_
  refine fr_lconst (pc := 2) O (v := (0 : Int64)) dX4_see_2 (by decide) ?_
  refine fr_ldc2 (pc := 3) O m_1023 dX4_see_3 ?_
  refine fr_callSI (pc := 6) (st := []) O (tX4_in X.2.1 hG  h) mt_X4_in m_798 m_797 rfl (by decide) rfl (Nat.le_of_ble_eq_true rfl) dX4_see_6 (fun r6 σ6 h => ?_)
  refine fr_if_eq (pc := 9) (tgt := 32) O dX4_see_9 (by decide) (fun c_9 => ?_) (fun c_9 => ?_)
  · have h := h.1 c_9
    exact kX4_see_B32 hG O  h
  · have h := h.2 c_9
    refine fr_aload_n (pc := 12) O 0 dX4_see_12 rfl rfl ?_
    refine fr_iload_n (pc := 13) O 2 dX4_see_13 rfl rfl ?_
    refine fr_callVI (pc := 14) (st := []) O (tX4_isWheel X.2.1 hG  h) mt_X4_isWheel mv_X4_isWheel m_857 cl_X4 rfl (sM_0 hG) rfl (by decide) rfl (Nat.le_of_ble_eq_true rfl) dX4_see_14 (fun r14 σ14 h => ?_)
    refine fr_if_eq (pc := 17) (tgt := 32) O dX4_see_17 (by decide) (fun c_17 => ?_) (fun c_17 => ?_)
    · have h := h.1 c_17
      exact kX4_see_B32 hG O  h
    · have h := h.2 c_17
      refine fr_iload_n (pc := 20) O 3 dX4_see_20 rfl rfl ?_
      refine fr_i2l (pc := 21) O dX4_see_21 ?_
      refine fr_lconst (pc := 22) O (v := (0 : Int64)) dX4_see_22 (by decide) ?_
      refine fr_ldc2 (pc := 23) O m_1024 dX4_see_23 ?_
      refine fr_callSI (pc := 26) (st := []) O (tX4_in X.2.1 hG  h) mt_X4_in m_798 m_797 rfl (by decide) rfl (Nat.le_of_ble_eq_true rfl) dX4_see_26 (fun r26 σ26 h => ?_)
      refine fr_if_ne (pc := 29) (tgt := 34) O dX4_see_29 (by decide) (fun c_29 => ?_) (fun c_29 => ?_)
      · have h := h.1 c_29
        refine fr_aload_n (pc := 34) O 0 dX4_see_34 rfl rfl ?_
        refine fr_get (pc := 35) (k := 19) (v := .int (σ26 0 19)) O cl_X4 m_732 (sM_0 hG) (by decide) rfl rfl dX4_see_35 ?_
        refine fr_bipush (pc := 38) O (v := (6 : Int32)) dX4_see_38 (by decide) ?_
        refine fr_icmp_ne (pc := 40) (tgt := 46) O dX4_see_40 (by decide) (fun c_40 => ?_) (fun c_40 => ?_)
        · have h := h.1 c_40
          refine fr_aload_n (pc := 46) O 0 dX4_see_46 rfl rfl ?_
          refine fr_get (pc := 47) (k := 18) (v := .ref (gad G 6)) O cl_X4 m_731 (sM_0 hG) (by decide) rfl rfl dX4_see_47 ?_
          refine fr_iconst (pc := 50) O (v := (3 : Int32)) dX4_see_50 (by decide) ?_
          refine fr_aload_n (pc := 51) O 0 dX4_see_51 rfl rfl ?_
          refine fr_get (pc := 52) (k := 19) (v := .int (σ26 0 19)) O cl_X4 m_732 (sM_0 hG) (by decide) rfl rfl dX4_see_52 ?_
          refine fr_imul (pc := 55) O dX4_see_55 ?_
          refine fr_iload_n (pc := 56) O 1 dX4_see_56 rfl rfl ?_
          have hi_57 := h.1
          have h := h.2
          refine fr_iast (pc := 57) O (sM_6 hG) hi_57 dX4_see_57 (fun σ57 e_σ57 => ?_)
          have h := h σ57 e_σ57
          refine fr_aload_n (pc := 58) O 0 dX4_see_58 rfl rfl ?_
          refine fr_get (pc := 59) (k := 18) (v := .ref (gad G 6)) O cl_X4 m_731 (sM_0 hG) (by decide) rfl rfl dX4_see_59 ?_
          refine fr_iconst (pc := 62) O (v := (3 : Int32)) dX4_see_62 (by decide) ?_
          refine fr_aload_n (pc := 63) O 0 dX4_see_63 rfl rfl ?_
          refine fr_get (pc := 64) (k := 19) (v := .int (σ57 0 19)) O cl_X4 m_732 (sM_0 hG) (by decide) rfl rfl dX4_see_64 ?_
          refine fr_imul (pc := 67) O dX4_see_67 ?_
          refine fr_iconst (pc := 68) O (v := (1 : Int32)) dX4_see_68 (by decide) ?_
          refine fr_iadd (pc := 69) O dX4_see_69 ?_
          refine fr_iload_n (pc := 70) O 2 dX4_see_70 rfl rfl ?_
          have hi_71 := h.1
          have h := h.2
          refine fr_iast (pc := 71) O (sM_6 hG) hi_71 dX4_see_71 (fun σ71 e_σ71 => ?_)
          have h := h σ71 e_σ71
          refine fr_aload_n (pc := 72) O 0 dX4_see_72 rfl rfl ?_
          refine fr_get (pc := 73) (k := 18) (v := .ref (gad G 6)) O cl_X4 m_731 (sM_0 hG) (by decide) rfl rfl dX4_see_73 ?_
          refine fr_iconst (pc := 76) O (v := (3 : Int32)) dX4_see_76 (by decide) ?_
          refine fr_aload_n (pc := 77) O 0 dX4_see_77 rfl rfl ?_
          refine fr_get (pc := 78) (k := 19) (v := .int (σ71 0 19)) O cl_X4 m_732 (sM_0 hG) (by decide) rfl rfl dX4_see_78 ?_
          refine fr_imul (pc := 81) O dX4_see_81 ?_
          refine fr_iconst (pc := 82) O (v := (2 : Int32)) dX4_see_82 (by decide) ?_
          refine fr_iadd (pc := 83) O dX4_see_83 ?_
          refine fr_iload_n (pc := 84) O 3 dX4_see_84 rfl rfl ?_
          have hi_85 := h.1
          have h := h.2
          refine fr_iast (pc := 85) O (sM_6 hG) hi_85 dX4_see_85 (fun σ85 e_σ85 => ?_)
          have h := h σ85 e_σ85
          refine fr_aload_n (pc := 86) O 0 dX4_see_86 rfl rfl ?_
          refine fr_dup (pc := 87) O dX4_see_87 rfl ?_
          refine fr_get (pc := 88) (k := 19) (v := .int (σ85 0 19)) O cl_X4 m_732 (sM_0 hG) (by decide) rfl rfl dX4_see_88 ?_
          refine fr_iconst (pc := 91) O (v := (1 : Int32)) dX4_see_91 (by decide) ?_
          refine fr_iadd (pc := 92) O dX4_see_92 ?_
          refine fr_put (pc := 93) (k := 19) O cl_X4 m_732 (sM_0 hG) (by decide) rfl rfl rfl rfl (fun _ => Nat.le_of_ble_eq_true rfl) (fun _ => rfl) dX4_see_93 (fun σ93 e_σ93 => ?_)
          have h := h σ93 e_σ93
          refine fr_aload_n (pc := 96) O 0 dX4_see_96 rfl rfl ?_
          refine fr_get (pc := 97) (k := 19) (v := .int (σ93 0 19)) O cl_X4 m_732 (sM_0 hG) (by decide) rfl rfl dX4_see_97 ?_
          exact fr_iret (pc := 100) O dX4_see_100 h
        · have h := h.2 c_40
          refine fr_bipush (pc := 43) O (v := (-3 : Int32)) dX4_see_43 (by decide) ?_
          exact fr_iret (pc := 45) O dX4_see_45 h
      · have h := h.2 c_29
        exact kX4_see_B32 hG O  h
theorem tX4_see (l : Launch) {G : Gw} (hG : fw_IsM G) {a1 : Int32} {a2 : Int32} {a3 : Int32}  {σ : Mem} {post : Int32 → Mem → Prop} (h : qX4_see a1 a2 a3 σ post) : fw_CI l G yX4_see cX4_see 4 .int 2 46 [.ref (gad G 0), .int a1, .int a2, .int a3] σ post := fw_ofI (sok_M hG) (by decide) (Nat.le_of_ble_eq_true rfl) (fun X O => kX4_see hG O  h)
def qX4_forget (a1 : Int32) (σ : Mem) (post : Int32 → Mem → Prop) : Prop := (qX4_in a1.toInt64 (0 : Int64) ((σ 0 19).toInt64) σ (fun r8 σ8 => ((¬ r8 = 0 → (∀ y2_20 : Int32, y2_20 = σ8 0 19 → (∀ σ23 : Mem, σ23 = up2 σ8 0 19 a1 → post y2_20 σ23))) ∧ (r8 = 0 → post (-1 : Int32) σ8))))
set_option maxRecDepth 20000 in
theorem kX4_forget {X : Cx} {G : Gw} (hG : fw_IsM G) (O : fw_Ok X G cX4_forget 3 RX4 1 25 (some .int)) {a1 : Int32}  {σ : Mem} {post : Int32 → Mem → Prop} (h : qX4_forget a1 σ post) : fw_At X G 3 (fw_QI X G post) 0 [(0, .ref (gad G 0)), (1, .int a1)] [] σ := by
  unfold qX4_forget at h
  refine fr_iload_n (pc := 0) O 1 dX4_forget_0 rfl rfl ?_
  refine fr_i2l (pc := 1) O dX4_forget_1 ?_
  refine fr_lconst (pc := 2) O (v := (0 : Int64)) dX4_forget_2 (by decide) ?_
  refine fr_aload_n (pc := 3) O 0 dX4_forget_3 rfl rfl ?_
  refine fr_get (pc := 4) (k := 19) (v := .int (σ 0 19)) O cl_X4 m_732 (sM_0 hG) (by decide) rfl rfl dX4_forget_4 ?_
  refine fr_i2l (pc := 7) O dX4_forget_7 ?_
  refine fr_callSI (pc := 8) (st := []) O (tX4_in X.2.1 hG  h) mt_X4_in m_798 m_797 rfl (by decide) rfl (Nat.le_of_ble_eq_true rfl) dX4_forget_8 (fun r8 σ8 h => ?_)
  refine fr_if_ne (pc := 11) (tgt := 16) O dX4_forget_11 (by decide) (fun c_11 => ?_) (fun c_11 => ?_)
  · have h := h.1 c_11
    refine fr_aload_n (pc := 16) O 0 dX4_forget_16 rfl rfl ?_
    refine fr_get (pc := 17) (k := 19) (v := .int (σ8 0 19)) O cl_X4 m_732 (sM_0 hG) (by decide) rfl rfl dX4_forget_17 ?_
    refine fr_nm (fun y2_20 e_y2_20 => ?_)
    have h := h y2_20 e_y2_20
    refine fr_istore_n (pc := 20) O [1, 2, 0] (lv' := [(0, .ref (gad G 0)), (1, .int a1), (2, .int y2_20)]) dX4_forget_20 rfl (by decide) rfl ?_
    refine fr_aload_n (pc := 21) O 0 dX4_forget_21 rfl rfl ?_
    refine fr_iload_n (pc := 22) O 1 dX4_forget_22 rfl rfl ?_
    refine fr_put (pc := 23) (k := 19) O cl_X4 m_732 (sM_0 hG) (by decide) rfl rfl rfl rfl (fun _ => Nat.le_of_ble_eq_true rfl) (fun _ => rfl) dX4_forget_23 (fun σ23 e_σ23 => ?_)
    have h := h σ23 e_σ23
    refine fr_iload_n (pc := 26) O 2 dX4_forget_26 rfl rfl ?_
    exact fr_iret (pc := 27) O dX4_forget_27 h
  · have h := h.2 c_11
    refine fr_iconst (pc := 14) O (v := (-1 : Int32)) dX4_forget_14 (by decide) ?_
    exact fr_iret (pc := 15) O dX4_forget_15 h
theorem tX4_forget (l : Launch) {G : Gw} (hG : fw_IsM G) {a1 : Int32}  {σ : Mem} {post : Int32 → Mem → Prop} (h : qX4_forget a1 σ post) : fw_CI l G yX4_forget cX4_forget 3 .int 1 25 [.ref (gad G 0), .int a1] σ post := fw_ofI (sok_M hG) (by decide) (Nat.le_of_ble_eq_true rfl) (fun X O => kX4_forget hG O  h)
def qX4_isAsSeen_B139 (a1 : Int32) (a2 : Int32) (post : Int32 → Mem → Prop) (k13 : Int32 → Int32 → Mem → Prop) (k45 : Int32 → Int32 → Int32 → Mem → Prop) (x4 : Int32) (x5 : Int32) (s0 : Int32) (σ : Mem) : Prop := (∀ y5_140 : Int32, y5_140 = x5 + (1 : Int32) → k45 s0 x4 y5_140 σ)
set_option maxRecDepth 20000 in
theorem kX4_isAsSeen_B139 {X : Cx} {G : Gw} (hG : fw_IsM G) (O : fw_Ok X G cX4_isAsSeen 8 RX4 3 75 (some .boolean)) {a1 : Int32} {a2 : Int32} {post : Int32 → Mem → Prop} {k13 : Int32 → Int32 → Mem → Prop} {k45 : Int32 → Int32 → Int32 → Mem → Prop}  (hk13 : ∀ (x3 : Int32) (x4 : Int32) (σ : Mem), k13 x3 x4 σ → fw_At X G 8 (fw_QI X G post) 13 [(0, .ref (gad G 0)), (1, .int a1), (2, .int a2), (3, .int x3), (4, .int x4)] [] σ) (hk45 : ∀ (x3 : Int32) (x4 : Int32) (x5 : Int32) (σ : Mem), k45 x3 x4 x5 σ → fw_At X G 8 (fw_QI X G post) 45 [(0, .ref (gad G 0)), (1, .int a1), (2, .int a2), (3, .int x3), (4, .int x4), (5, .int x5)] [] σ) {x4 : Int32} {x5 : Int32} {s0 : Int32} {σ : Mem} (h : qX4_isAsSeen_B139 a1 a2 post k13 k45 x4 x5 s0 σ) : fw_At X G 8 (fw_QI X G post) 139 [(0, .ref (gad G 0)), (1, .int a1), (2, .int a2), (4, .int x4), (5, .int x5)] [.int s0] σ := by
  unfold qX4_isAsSeen_B139 at h
  refine fr_istore_n (pc := 139) O [1, 2, 3, 0, 4, 5] (lv' := [(0, .ref (gad G 0)), (1, .int a1), (2, .int a2), (3, .int s0), (4, .int x4), (5, .int x5)]) dX4_isAsSeen_139 rfl (by decide) rfl ?_
  refine fr_iinc (pc := 140) O 5 [1, 2, 3, 4, 5, 0] (w := (1 : Int32)) (lvF := fun y5_140 => [(0, .ref (gad G 0)), (1, .int a1), (2, .int a2), (3, .int s0), (4, .int x4), (5, .int y5_140)]) dX4_isAsSeen_140 rfl (by decide) (by decide) (fun _ => rfl) (fun y5_140 e_y5_140 => ?_)
  have h := h y5_140 e_y5_140
  refine fr_goto (pc := 143) (tgt := 45) O dX4_isAsSeen_143 (by decide) ?_
  exact hk45 _ _ _ _ h
def qX4_isAsSeen_B138 (a1 : Int32) (a2 : Int32) (post : Int32 → Mem → Prop) (k13 : Int32 → Int32 → Mem → Prop) (k45 : Int32 → Int32 → Int32 → Mem → Prop) (x4 : Int32) (x5 : Int32) (σ : Mem) : Prop := qX4_isAsSeen_B139 a1 a2 post k13 k45 x4 x5 (0 : Int32) σ
set_option maxRecDepth 20000 in
theorem kX4_isAsSeen_B138 {X : Cx} {G : Gw} (hG : fw_IsM G) (O : fw_Ok X G cX4_isAsSeen 8 RX4 3 75 (some .boolean)) {a1 : Int32} {a2 : Int32} {post : Int32 → Mem → Prop} {k13 : Int32 → Int32 → Mem → Prop} {k45 : Int32 → Int32 → Int32 → Mem → Prop}  (hk13 : ∀ (x3 : Int32) (x4 : Int32) (σ : Mem), k13 x3 x4 σ → fw_At X G 8 (fw_QI X G post) 13 [(0, .ref (gad G 0)), (1, .int a1), (2, .int a2), (3, .int x3), (4, .int x4)] [] σ) (hk45 : ∀ (x3 : Int32) (x4 : Int32) (x5 : Int32) (σ : Mem), k45 x3 x4 x5 σ → fw_At X G 8 (fw_QI X G post) 45 [(0, .ref (gad G 0)), (1, .int a1), (2, .int a2), (3, .int x3), (4, .int x4), (5, .int x5)] [] σ) {x4 : Int32} {x5 : Int32} {σ : Mem} (h : qX4_isAsSeen_B138 a1 a2 post k13 k45 x4 x5 σ) : fw_At X G 8 (fw_QI X G post) 138 [(0, .ref (gad G 0)), (1, .int a1), (2, .int a2), (4, .int x4), (5, .int x5)] [] σ := by
  unfold qX4_isAsSeen_B138 at h
  refine fr_iconst (pc := 138) O (v := (0 : Int32)) dX4_isAsSeen_138 (by decide) ?_
  exact kX4_isAsSeen_B139 hG O hk13 hk45 h
def qX4_isAsSeen_B134 (a1 : Int32) (a2 : Int32) (post : Int32 → Mem → Prop) (k13 : Int32 → Int32 → Mem → Prop) (k45 : Int32 → Int32 → Int32 → Mem → Prop) (x4 : Int32) (x5 : Int32) (σ : Mem) : Prop := qX4_isAsSeen_B139 a1 a2 post k13 k45 x4 x5 (1 : Int32) σ
set_option maxRecDepth 20000 in
theorem kX4_isAsSeen_B134 {X : Cx} {G : Gw} (hG : fw_IsM G) (O : fw_Ok X G cX4_isAsSeen 8 RX4 3 75 (some .boolean)) {a1 : Int32} {a2 : Int32} {post : Int32 → Mem → Prop} {k13 : Int32 → Int32 → Mem → Prop} {k45 : Int32 → Int32 → Int32 → Mem → Prop}  (hk13 : ∀ (x3 : Int32) (x4 : Int32) (σ : Mem), k13 x3 x4 σ → fw_At X G 8 (fw_QI X G post) 13 [(0, .ref (gad G 0)), (1, .int a1), (2, .int a2), (3, .int x3), (4, .int x4)] [] σ) (hk45 : ∀ (x3 : Int32) (x4 : Int32) (x5 : Int32) (σ : Mem), k45 x3 x4 x5 σ → fw_At X G 8 (fw_QI X G post) 45 [(0, .ref (gad G 0)), (1, .int a1), (2, .int a2), (3, .int x3), (4, .int x4), (5, .int x5)] [] σ) {x4 : Int32} {x5 : Int32} {σ : Mem} (h : qX4_isAsSeen_B134 a1 a2 post k13 k45 x4 x5 σ) : fw_At X G 8 (fw_QI X G post) 134 [(0, .ref (gad G 0)), (1, .int a1), (2, .int a2), (4, .int x4), (5, .int x5)] [] σ := by
  unfold qX4_isAsSeen_B134 at h
  refine fr_iconst (pc := 134) O (v := (1 : Int32)) dX4_isAsSeen_134 (by decide) ?_
  refine fr_goto (pc := 135) (tgt := 139) O dX4_isAsSeen_135 (by decide) ?_
  exact kX4_isAsSeen_B139 hG O hk13 hk45 h
def qX4_isAsSeen_B109 (a1 : Int32) (a2 : Int32) (post : Int32 → Mem → Prop) (k13 : Int32 → Int32 → Mem → Prop) (k45 : Int32 → Int32 → Int32 → Mem → Prop) (x3 : Int32) (x4 : Int32) (x5 : Int32) (s0 : Int32) (σ : Mem) : Prop := ((x3 = 0 → qX4_isAsSeen_B138 a1 a2 post k13 k45 x4 x5 σ) ∧ (¬ x3 = 0 → (vp_in ((3 : Int32) * x5) 18 ∧ ((¬ (σ 6 ((3 : Int32) * x5).toNatClampNeg) = x4 → qX4_isAsSeen_B134 a1 a2 post k13 k45 x4 x5 σ) ∧ ((σ 6 ((3 : Int32) * x5).toNatClampNeg) = x4 → ((s0 = 0 → qX4_isAsSeen_B138 a1 a2 post k13 k45 x4 x5 σ) ∧ (¬ s0 = 0 → qX4_isAsSeen_B134 a1 a2 post k13 k45 x4 x5 σ)))))))
set_option maxRecDepth 20000 in
theorem kX4_isAsSeen_B109 {X : Cx} {G : Gw} (hG : fw_IsM G) (O : fw_Ok X G cX4_isAsSeen 8 RX4 3 75 (some .boolean)) {a1 : Int32} {a2 : Int32} {post : Int32 → Mem → Prop} {k13 : Int32 → Int32 → Mem → Prop} {k45 : Int32 → Int32 → Int32 → Mem → Prop}  (hk13 : ∀ (x3 : Int32) (x4 : Int32) (σ : Mem), k13 x3 x4 σ → fw_At X G 8 (fw_QI X G post) 13 [(0, .ref (gad G 0)), (1, .int a1), (2, .int a2), (3, .int x3), (4, .int x4)] [] σ) (hk45 : ∀ (x3 : Int32) (x4 : Int32) (x5 : Int32) (σ : Mem), k45 x3 x4 x5 σ → fw_At X G 8 (fw_QI X G post) 45 [(0, .ref (gad G 0)), (1, .int a1), (2, .int a2), (3, .int x3), (4, .int x4), (5, .int x5)] [] σ) {x3 : Int32} {x4 : Int32} {x5 : Int32} {s0 : Int32} {σ : Mem} (h : qX4_isAsSeen_B109 a1 a2 post k13 k45 x3 x4 x5 s0 σ) : fw_At X G 8 (fw_QI X G post) 109 [(0, .ref (gad G 0)), (1, .int a1), (2, .int a2), (3, .int x3), (4, .int x4), (5, .int x5)] [.int s0] σ := by
  unfold qX4_isAsSeen_B109 at h
  refine fr_istore (pc := 109) O [1, 2, 3, 4, 5, 6, 0] (lv' := [(0, .ref (gad G 0)), (1, .int a1), (2, .int a2), (3, .int x3), (4, .int x4), (5, .int x5), (7, .int s0)]) dX4_isAsSeen_109 (by decide) rfl ?_
  refine fr_iload_n (pc := 111) O 3 dX4_isAsSeen_111 rfl rfl ?_
  refine fr_if_eq (pc := 112) (tgt := 138) O dX4_isAsSeen_112 (by decide) (fun c_112 => ?_) (fun c_112 => ?_)
  · have h := h.1 c_112
    refine fw_sub (lv' := [(0, .ref (gad G 0)), (1, .int a1), (2, .int a2), (4, .int x4), (5, .int x5)]) [0, 1, 2, 4, 5] rfl ?_
    exact kX4_isAsSeen_B138 hG O hk13 hk45 h
  · have h := h.2 c_112
    refine fr_aload_n (pc := 115) O 0 dX4_isAsSeen_115 rfl rfl ?_
    refine fr_get (pc := 116) (k := 18) (v := .ref (gad G 6)) O cl_X4 m_731 (sM_0 hG) (by decide) rfl rfl dX4_isAsSeen_116 ?_
    refine fr_iconst (pc := 119) O (v := (3 : Int32)) dX4_isAsSeen_119 (by decide) ?_
    refine fr_iload (pc := 120) O 5 dX4_isAsSeen_120 rfl ?_
    refine fr_imul (pc := 122) O dX4_isAsSeen_122 ?_
    have hi_123 := h.1
    have h := h.2
    refine fr_iald (pc := 123) O (sM_6 hG) hi_123 dX4_isAsSeen_123 ?_
    refine fr_iload (pc := 124) O 4 dX4_isAsSeen_124 rfl ?_
    refine fr_icmp_ne (pc := 126) (tgt := 134) O dX4_isAsSeen_126 (by decide) (fun c_126 => ?_) (fun c_126 => ?_)
    · have h := h.1 c_126
      refine fw_sub (lv' := [(0, .ref (gad G 0)), (1, .int a1), (2, .int a2), (4, .int x4), (5, .int x5)]) [0, 1, 2, 4, 5] rfl ?_
      exact kX4_isAsSeen_B134 hG O hk13 hk45 h
    · have h := h.2 c_126
      refine fr_iload (pc := 129) O 6 dX4_isAsSeen_129 rfl ?_
      refine fr_if_eq (pc := 131) (tgt := 138) O dX4_isAsSeen_131 (by decide) (fun c_131 => ?_) (fun c_131 => ?_)
      · have h := h.1 c_131
        refine fw_sub (lv' := [(0, .ref (gad G 0)), (1, .int a1), (2, .int a2), (4, .int x4), (5, .int x5)]) [0, 1, 2, 4, 5] rfl ?_
        exact kX4_isAsSeen_B138 hG O hk13 hk45 h
      · have h := h.2 c_131
        refine fw_sub (lv' := [(0, .ref (gad G 0)), (1, .int a1), (2, .int a2), (4, .int x4), (5, .int x5)]) [0, 1, 2, 4, 5] rfl ?_
        exact kX4_isAsSeen_B134 hG O hk13 hk45 h
def qX4_isAsSeen_B108 (a1 : Int32) (a2 : Int32) (post : Int32 → Mem → Prop) (k13 : Int32 → Int32 → Mem → Prop) (k45 : Int32 → Int32 → Int32 → Mem → Prop) (x3 : Int32) (x4 : Int32) (x5 : Int32) (σ : Mem) : Prop := qX4_isAsSeen_B109 a1 a2 post k13 k45 x3 x4 x5 (0 : Int32) σ
set_option maxRecDepth 20000 in
theorem kX4_isAsSeen_B108 {X : Cx} {G : Gw} (hG : fw_IsM G) (O : fw_Ok X G cX4_isAsSeen 8 RX4 3 75 (some .boolean)) {a1 : Int32} {a2 : Int32} {post : Int32 → Mem → Prop} {k13 : Int32 → Int32 → Mem → Prop} {k45 : Int32 → Int32 → Int32 → Mem → Prop}  (hk13 : ∀ (x3 : Int32) (x4 : Int32) (σ : Mem), k13 x3 x4 σ → fw_At X G 8 (fw_QI X G post) 13 [(0, .ref (gad G 0)), (1, .int a1), (2, .int a2), (3, .int x3), (4, .int x4)] [] σ) (hk45 : ∀ (x3 : Int32) (x4 : Int32) (x5 : Int32) (σ : Mem), k45 x3 x4 x5 σ → fw_At X G 8 (fw_QI X G post) 45 [(0, .ref (gad G 0)), (1, .int a1), (2, .int a2), (3, .int x3), (4, .int x4), (5, .int x5)] [] σ) {x3 : Int32} {x4 : Int32} {x5 : Int32} {σ : Mem} (h : qX4_isAsSeen_B108 a1 a2 post k13 k45 x3 x4 x5 σ) : fw_At X G 8 (fw_QI X G post) 108 [(0, .ref (gad G 0)), (1, .int a1), (2, .int a2), (3, .int x3), (4, .int x4), (5, .int x5)] [] σ := by
  unfold qX4_isAsSeen_B108 at h
  refine fr_iconst (pc := 108) O (v := (0 : Int32)) dX4_isAsSeen_108 (by decide) ?_
  exact kX4_isAsSeen_B109 hG O hk13 hk45 h
def qX4_isAsSeen_L45 (a1 : Int32) (a2 : Int32) (post : Int32 → Mem → Prop) (k13 : Int32 → Int32 → Mem → Prop) (k45 : Int32 → Int32 → Int32 → Mem → Prop) (x3 : Int32) (x4 : Int32) (x5 : Int32) (σ : Mem) : Prop := (((σ 0 19) ≤ x5 → (qX4_tickOn (156 : Int32) (0 : Int32) σ (fun σ151 => (∀ y4_154 : Int32, y4_154 = x4 + (1 : Int32) → k13 x3 y4_154 σ151)))) ∧ (¬ (σ 0 19) ≤ x5 → (vp_in (((3 : Int32) * x5) + (1 : Int32)) 18 ∧ (∀ y6_65 : Int32, y6_65 = σ 6 (((3 : Int32) * x5) + (1 : Int32)).toNatClampNeg → (vp_in (16 : Int32) 234 ∧ (((σ 1 (16 : Int32).toNatClampNeg) ≤ y6_65 → qX4_isAsSeen_B108 a1 a2 post k13 k45 x3 x4 x5 σ) ∧ (¬ (σ 1 (16 : Int32).toNatClampNeg) ≤ y6_65 → (vp_in ((168 : Int32) + y6_65) 234 ∧ (vp_in (((3 : Int32) * x5) + (2 : Int32)) 18 ∧ ((¬ (σ 1 ((168 : Int32) + y6_65).toNatClampNeg) = (σ 6 (((3 : Int32) * x5) + (2 : Int32)).toNatClampNeg) → qX4_isAsSeen_B108 a1 a2 post k13 k45 x3 x4 x5 σ) ∧ ((σ 1 ((168 : Int32) + y6_65).toNatClampNeg) = (σ 6 (((3 : Int32) * x5) + (2 : Int32)).toNatClampNeg) → qX4_isAsSeen_B109 a1 a2 post k13 k45 x3 x4 x5 (1 : Int32) σ)))))))))))
set_option maxRecDepth 20000 in
theorem kX4_isAsSeen_L45 {X : Cx} {G : Gw} (hG : fw_IsM G) (O : fw_Ok X G cX4_isAsSeen 8 RX4 3 75 (some .boolean)) {a1 : Int32} {a2 : Int32} {post : Int32 → Mem → Prop} {k13 : Int32 → Int32 → Mem → Prop} {k45 : Int32 → Int32 → Int32 → Mem → Prop}  (hk13 : ∀ (x3 : Int32) (x4 : Int32) (σ : Mem), k13 x3 x4 σ → fw_At X G 8 (fw_QI X G post) 13 [(0, .ref (gad G 0)), (1, .int a1), (2, .int a2), (3, .int x3), (4, .int x4)] [] σ) (hk45 : ∀ (x3 : Int32) (x4 : Int32) (x5 : Int32) (σ : Mem), k45 x3 x4 x5 σ → fw_At X G 8 (fw_QI X G post) 45 [(0, .ref (gad G 0)), (1, .int a1), (2, .int a2), (3, .int x3), (4, .int x4), (5, .int x5)] [] σ) {x3 : Int32} {x4 : Int32} {x5 : Int32} {σ : Mem} (h : qX4_isAsSeen_L45 a1 a2 post k13 k45 x3 x4 x5 σ) : fw_At X G 8 (fw_QI X G post) 45 [(0, .ref (gad G 0)), (1, .int a1), (2, .int a2), (3, .int x3), (4, .int x4), (5, .int x5)] [] σ := by
  unfold qX4_isAsSeen_L45 at h
  refine fr_iload (pc := 45) O 5 dX4_isAsSeen_45 rfl ?_
  refine fr_aload_n (pc := 47) O 0 dX4_isAsSeen_47 rfl rfl ?_
  refine fr_get (pc := 48) (k := 19) (v := .int (σ 0 19)) O cl_X4 m_732 (sM_0 hG) (by decide) rfl rfl dX4_isAsSeen_48 ?_
  refine fr_icmp_ge (pc := 51) (tgt := 146) O dX4_isAsSeen_51 (by decide) (fun c_51 => ?_) (fun c_51 => ?_)
  · have h := h.1 c_51
    refine fr_aload_n (pc := 146) O 0 dX4_isAsSeen_146 rfl rfl ?_
    refine fr_sipush (pc := 147) O (v := (156 : Int32)) dX4_isAsSeen_147 (by decide) ?_
    refine fr_iconst (pc := 150) O (v := (0 : Int32)) dX4_isAsSeen_150 (by decide) ?_
    refine fr_callVV (pc := 151) (st := []) O (tX4_tickOn X.2.1 hG  h) mt_X4_tickOn mv_X4_tickOn m_928 cl_X4 rfl (sM_0 hG) rfl (by decide) rfl (Nat.le_of_ble_eq_true rfl) dX4_isAsSeen_151 (fun σ151 h => ?_)
    refine fr_iinc (pc := 154) O 4 [1, 2, 3, 4, 0, 5] (w := (1 : Int32)) (lvF := fun y4_154 => [(0, .ref (gad G 0)), (1, .int a1), (2, .int a2), (3, .int x3), (4, .int y4_154), (5, .int x5)]) dX4_isAsSeen_154 rfl (by decide) (by decide) (fun _ => rfl) (fun y4_154 e_y4_154 => ?_)
    have h := h y4_154 e_y4_154
    refine fr_goto (pc := 157) (tgt := 13) O dX4_isAsSeen_157 (by decide) ?_
    refine fw_sub (lv' := [(0, .ref (gad G 0)), (1, .int a1), (2, .int a2), (3, .int x3), (4, .int y4_154)]) [0, 1, 2, 3, 4] rfl ?_
    exact hk13 _ _ _ h
  · have h := h.2 c_51
    refine fr_aload_n (pc := 54) O 0 dX4_isAsSeen_54 rfl rfl ?_
    refine fr_get (pc := 55) (k := 18) (v := .ref (gad G 6)) O cl_X4 m_731 (sM_0 hG) (by decide) rfl rfl dX4_isAsSeen_55 ?_
    refine fr_iconst (pc := 58) O (v := (3 : Int32)) dX4_isAsSeen_58 (by decide) ?_
    refine fr_iload (pc := 59) O 5 dX4_isAsSeen_59 rfl ?_
    refine fr_imul (pc := 61) O dX4_isAsSeen_61 ?_
    refine fr_iconst (pc := 62) O (v := (1 : Int32)) dX4_isAsSeen_62 (by decide) ?_
    refine fr_iadd (pc := 63) O dX4_isAsSeen_63 ?_
    have hi_64 := h.1
    have h := h.2
    refine fr_iald (pc := 64) O (sM_6 hG) hi_64 dX4_isAsSeen_64 ?_
    refine fr_nm (fun y6_65 e_y6_65 => ?_)
    have h := h y6_65 e_y6_65
    refine fr_istore (pc := 65) O [1, 2, 3, 4, 5, 6, 0] (lv' := [(0, .ref (gad G 0)), (1, .int a1), (2, .int a2), (3, .int x3), (4, .int x4), (5, .int x5), (6, .int y6_65)]) dX4_isAsSeen_65 (by decide) rfl ?_
    refine fr_iload (pc := 67) O 6 dX4_isAsSeen_67 rfl ?_
    refine fr_aload_n (pc := 69) O 0 dX4_isAsSeen_69 rfl rfl ?_
    refine fr_get (pc := 70) (k := 0) (v := .ref (gad G 1)) O cl_X4 m_713 (sM_0 hG) (by decide) rfl rfl dX4_isAsSeen_70 ?_
    refine fr_bipush (pc := 73) O (v := (16 : Int32)) dX4_isAsSeen_73 (by decide) ?_
    have hi_75 := h.1
    have h := h.2
    refine fr_iald (pc := 75) O (sM_1 hG) hi_75 dX4_isAsSeen_75 ?_
    refine fr_icmp_ge (pc := 76) (tgt := 108) O dX4_isAsSeen_76 (by decide) (fun c_76 => ?_) (fun c_76 => ?_)
    · have h := h.1 c_76
      refine fw_sub (lv' := [(0, .ref (gad G 0)), (1, .int a1), (2, .int a2), (3, .int x3), (4, .int x4), (5, .int x5)]) [0, 1, 2, 3, 4, 5] rfl ?_
      exact kX4_isAsSeen_B108 hG O hk13 hk45 h
    · have h := h.2 c_76
      refine fr_aload_n (pc := 79) O 0 dX4_isAsSeen_79 rfl rfl ?_
      refine fr_get (pc := 80) (k := 0) (v := .ref (gad G 1)) O cl_X4 m_713 (sM_0 hG) (by decide) rfl rfl dX4_isAsSeen_80 ?_
      refine fr_sipush (pc := 83) O (v := (168 : Int32)) dX4_isAsSeen_83 (by decide) ?_
      refine fr_iload (pc := 86) O 6 dX4_isAsSeen_86 rfl ?_
      refine fr_iadd (pc := 88) O dX4_isAsSeen_88 ?_
      have hi_89 := h.1
      have h := h.2
      refine fr_iald (pc := 89) O (sM_1 hG) hi_89 dX4_isAsSeen_89 ?_
      refine fr_aload_n (pc := 90) O 0 dX4_isAsSeen_90 rfl rfl ?_
      refine fr_get (pc := 91) (k := 18) (v := .ref (gad G 6)) O cl_X4 m_731 (sM_0 hG) (by decide) rfl rfl dX4_isAsSeen_91 ?_
      refine fr_iconst (pc := 94) O (v := (3 : Int32)) dX4_isAsSeen_94 (by decide) ?_
      refine fr_iload (pc := 95) O 5 dX4_isAsSeen_95 rfl ?_
      refine fr_imul (pc := 97) O dX4_isAsSeen_97 ?_
      refine fr_iconst (pc := 98) O (v := (2 : Int32)) dX4_isAsSeen_98 (by decide) ?_
      refine fr_iadd (pc := 99) O dX4_isAsSeen_99 ?_
      have hi_100 := h.1
      have h := h.2
      refine fr_iald (pc := 100) O (sM_6 hG) hi_100 dX4_isAsSeen_100 ?_
      refine fr_icmp_ne (pc := 101) (tgt := 108) O dX4_isAsSeen_101 (by decide) (fun c_101 => ?_) (fun c_101 => ?_)
      · have h := h.1 c_101
        refine fw_sub (lv' := [(0, .ref (gad G 0)), (1, .int a1), (2, .int a2), (3, .int x3), (4, .int x4), (5, .int x5)]) [0, 1, 2, 3, 4, 5] rfl ?_
        exact kX4_isAsSeen_B108 hG O hk13 hk45 h
      · have h := h.2 c_101
        refine fr_iconst (pc := 104) O (v := (1 : Int32)) dX4_isAsSeen_104 (by decide) ?_
        refine fr_goto (pc := 105) (tgt := 109) O dX4_isAsSeen_105 (by decide) ?_
        refine fw_sub (lv' := [(0, .ref (gad G 0)), (1, .int a1), (2, .int a2), (3, .int x3), (4, .int x4), (5, .int x5)]) [0, 1, 2, 3, 4, 5] rfl ?_
        exact kX4_isAsSeen_B109 hG O hk13 hk45 h
set_option maxRecDepth 20000 in
theorem kX4_isAsSeen_L45w {X : Cx} {G : Gw} (hG : fw_IsM G) (O : fw_Ok X G cX4_isAsSeen 8 RX4 3 75 (some .boolean)) {a1 : Int32} {a2 : Int32} {post : Int32 → Mem → Prop} {k13 : Int32 → Int32 → Mem → Prop}  (hk13 : ∀ (x3 : Int32) (x4 : Int32) (σ : Mem), k13 x3 x4 σ → fw_At X G 8 (fw_QI X G post) 13 [(0, .ref (gad G 0)), (1, .int a1), (2, .int a2), (3, .int x3), (4, .int x4)] [] σ) {n9 : Nat} {x3 : Int32} {x4 : Int32} {x5 : Int32} {σ : Mem} (h : it3 (qX4_isAsSeen_L45 a1 a2 post k13) n9 x3 x4 x5 σ) : fw_At X G 8 (fw_QI X G post) 45 [(0, .ref (gad G 0)), (1, .int a1), (2, .int a2), (3, .int x3), (4, .int x4), (5, .int x5)] [] σ :=
  it3_walk (T := fun x3 x4 x5 σ => fw_At X G 8 (fw_QI X G post) 45 [(0, .ref (gad G 0)), (1, .int a1), (2, .int a2), (3, .int x3), (4, .int x4), (5, .int x5)] [] σ) (fun k45 hk45 x3 x4 x5 σ h => kX4_isAsSeen_L45 hG O hk13 hk45 h) n9 x3 x4 x5 σ h
def qX4_isAsSeen_L13 (a1 : Int32) (a2 : Int32) (post : Int32 → Mem → Prop) (k13 : Int32 → Int32 → Mem → Prop) (x3 : Int32) (x4 : Int32) (σ : Mem) : Prop := (((40 : Int32) < x4 → (isB x3 ∧ post x3 σ)) ∧ (¬ (40 : Int32) < x4 → (vp_in ((168 : Int32) + a2) 234 ∧ (vp_in (((41 : Int32) * a1) + x4) 410 ∧ (∀ σ41 : Mem, σ41 = up2 σ 7 (((41 : Int32) * a1) + x4).toNatClampNeg (σ 1 ((168 : Int32) + a2).toNatClampNeg) → ∃ n9, it3 (qX4_isAsSeen_L45 a1 a2 post k13) n9 x3 x4 (0 : Int32) σ41)))))
set_option maxRecDepth 20000 in
theorem kX4_isAsSeen_L13 {X : Cx} {G : Gw} (hG : fw_IsM G) (O : fw_Ok X G cX4_isAsSeen 8 RX4 3 75 (some .boolean)) {a1 : Int32} {a2 : Int32} {post : Int32 → Mem → Prop} {k13 : Int32 → Int32 → Mem → Prop}  (hk13 : ∀ (x3 : Int32) (x4 : Int32) (σ : Mem), k13 x3 x4 σ → fw_At X G 8 (fw_QI X G post) 13 [(0, .ref (gad G 0)), (1, .int a1), (2, .int a2), (3, .int x3), (4, .int x4)] [] σ) {x3 : Int32} {x4 : Int32} {σ : Mem} (h : qX4_isAsSeen_L13 a1 a2 post k13 x3 x4 σ) : fw_At X G 8 (fw_QI X G post) 13 [(0, .ref (gad G 0)), (1, .int a1), (2, .int a2), (3, .int x3), (4, .int x4)] [] σ := by
  unfold qX4_isAsSeen_L13 at h
  refine fr_iload (pc := 13) O 4 dX4_isAsSeen_13 rfl ?_
  refine fr_bipush (pc := 15) O (v := (40 : Int32)) dX4_isAsSeen_15 (by decide) ?_
  refine fr_icmp_gt (pc := 17) (tgt := 160) O dX4_isAsSeen_17 (by decide) (fun c_17 => ?_) (fun c_17 => ?_)
  · have h := h.1 c_17
    refine fr_iload_n (pc := 160) O 3 dX4_isAsSeen_160 rfl rfl ?_
    exact fr_zret (pc := 161) O dX4_isAsSeen_161 h.1 h.2
  · have h := h.2 c_17
    refine fr_aload_n (pc := 20) O 0 dX4_isAsSeen_20 rfl rfl ?_
    refine fr_get (pc := 21) (k := 20) (v := .ref (gad G 7)) O cl_X4 m_733 (sM_0 hG) (by decide) rfl rfl dX4_isAsSeen_21 ?_
    refine fr_bipush (pc := 24) O (v := (41 : Int32)) dX4_isAsSeen_24 (by decide) ?_
    refine fr_iload_n (pc := 26) O 1 dX4_isAsSeen_26 rfl rfl ?_
    refine fr_imul (pc := 27) O dX4_isAsSeen_27 ?_
    refine fr_iload (pc := 28) O 4 dX4_isAsSeen_28 rfl ?_
    refine fr_iadd (pc := 30) O dX4_isAsSeen_30 ?_
    refine fr_aload_n (pc := 31) O 0 dX4_isAsSeen_31 rfl rfl ?_
    refine fr_get (pc := 32) (k := 0) (v := .ref (gad G 1)) O cl_X4 m_713 (sM_0 hG) (by decide) rfl rfl dX4_isAsSeen_32 ?_
    refine fr_sipush (pc := 35) O (v := (168 : Int32)) dX4_isAsSeen_35 (by decide) ?_
    refine fr_iload_n (pc := 38) O 2 dX4_isAsSeen_38 rfl rfl ?_
    refine fr_iadd (pc := 39) O dX4_isAsSeen_39 ?_
    have hi_40 := h.1
    have h := h.2
    refine fr_iald (pc := 40) O (sM_1 hG) hi_40 dX4_isAsSeen_40 ?_
    have hi_41 := h.1
    have h := h.2
    refine fr_iast (pc := 41) O (sM_7 hG) hi_41 dX4_isAsSeen_41 (fun σ41 e_σ41 => ?_)
    have h := h σ41 e_σ41
    refine fr_iconst (pc := 42) O (v := (0 : Int32)) dX4_isAsSeen_42 (by decide) ?_
    refine fr_istore (pc := 43) O [1, 2, 3, 4, 5, 0] (lv' := [(0, .ref (gad G 0)), (1, .int a1), (2, .int a2), (3, .int x3), (4, .int x4), (5, .int (0 : Int32))]) dX4_isAsSeen_43 (by decide) rfl ?_
    obtain ⟨n9, h⟩ := h
    exact kX4_isAsSeen_L45w hG O hk13 h
set_option maxRecDepth 20000 in
theorem kX4_isAsSeen_L13w {X : Cx} {G : Gw} (hG : fw_IsM G) (O : fw_Ok X G cX4_isAsSeen 8 RX4 3 75 (some .boolean)) {a1 : Int32} {a2 : Int32} {post : Int32 → Mem → Prop}   {n9 : Nat} {x3 : Int32} {x4 : Int32} {σ : Mem} (h : it2 (qX4_isAsSeen_L13 a1 a2 post) n9 x3 x4 σ) : fw_At X G 8 (fw_QI X G post) 13 [(0, .ref (gad G 0)), (1, .int a1), (2, .int a2), (3, .int x3), (4, .int x4)] [] σ :=
  it2_walk (T := fun x3 x4 σ => fw_At X G 8 (fw_QI X G post) 13 [(0, .ref (gad G 0)), (1, .int a1), (2, .int a2), (3, .int x3), (4, .int x4)] [] σ) (fun k13 hk13 x3 x4 σ h => kX4_isAsSeen_L13 hG O hk13 h) n9 x3 x4 σ h
def qX4_isAsSeen (a1 : Int32) (a2 : Int32) (σ : Mem) (post : Int32 → Mem → Prop) : Prop := (qX4_copies (0 : Int32) (156 : Int32) σ (fun σ5 => ∃ n9, it2 (qX4_isAsSeen_L13 a1 a2 post) n9 (1 : Int32) (0 : Int32) σ5))
set_option maxRecDepth 20000 in
theorem kX4_isAsSeen {X : Cx} {G : Gw} (hG : fw_IsM G) (O : fw_Ok X G cX4_isAsSeen 8 RX4 3 75 (some .boolean)) {a1 : Int32} {a2 : Int32}  {σ : Mem} {post : Int32 → Mem → Prop} (h : qX4_isAsSeen a1 a2 σ post) : fw_At X G 8 (fw_QI X G post) 0 [(0, .ref (gad G 0)), (1, .int a1), (2, .int a2)] [] σ := by
  unfold qX4_isAsSeen at h
  refine fr_aload_n (pc := 0) O 0 dX4_isAsSeen_0 rfl rfl ?_
  refine fr_iconst (pc := 1) O (v := (0 : Int32)) dX4_isAsSeen_1 (by decide) ?_
  refine fr_sipush (pc := 2) O (v := (156 : Int32)) dX4_isAsSeen_2 (by decide) ?_
  refine fr_callVV (pc := 5) (st := []) O (tX4_copies X.2.1 hG  h) mt_X4_copies mv_X4_copies m_949 cl_X4 rfl (sM_0 hG) rfl (by decide) rfl (Nat.le_of_ble_eq_true rfl) dX4_isAsSeen_5 (fun σ5 h => ?_)
  refine fr_iconst (pc := 8) O (v := (1 : Int32)) dX4_isAsSeen_8 (by decide) ?_
  refine fr_istore_n (pc := 9) O [1, 2, 3, 0] (lv' := [(0, .ref (gad G 0)), (1, .int a1), (2, .int a2), (3, .int (1 : Int32))]) dX4_isAsSeen_9 rfl (by decide) rfl ?_
  refine fr_iconst (pc := 10) O (v := (0 : Int32)) dX4_isAsSeen_10 (by decide) ?_
  refine fr_istore (pc := 11) O [1, 2, 3, 4, 0] (lv' := [(0, .ref (gad G 0)), (1, .int a1), (2, .int a2), (3, .int (1 : Int32)), (4, .int (0 : Int32))]) dX4_isAsSeen_11 (by decide) rfl ?_
  obtain ⟨n9, h⟩ := h
  exact kX4_isAsSeen_L13w hG O  h
theorem tX4_isAsSeen (l : Launch) {G : Gw} (hG : fw_IsM G) {a1 : Int32} {a2 : Int32}  {σ : Mem} {post : Int32 → Mem → Prop} (h : qX4_isAsSeen a1 a2 σ post) : fw_CI l G yX4_isAsSeen cX4_isAsSeen 8 .boolean 3 75 [.ref (gad G 0), .int a1, .int a2] σ post := fw_ofI (sok_M hG) (by decide) (Nat.le_of_ble_eq_true rfl) (fun X O => kX4_isAsSeen hG O  h)
def qX4_numbersAt_B48 (a1 : Int32) (a2 : Int32) (a3 : Int32) (post : Int32 → Mem → Prop) (k14 : Int32 → Int32 → Int32 → Mem → Prop) (x4 : Int32) (x6 : Int32) (s0 : Int32) (s1 : Int32) (σ : Mem) : Prop := (∀ y5_49 : Int32, y5_49 = s0 ||| s1 → (∀ y6_51 : Int32, y6_51 = x6 + (1 : Int32) → k14 x4 y5_49 y6_51 σ))
set_option maxRecDepth 20000 in
theorem kX4_numbersAt_B48 {X : Cx} {G : Gw} (hG : fw_IsM G) (O : fw_Ok X G cX4_numbersAt 7 RX4 4 102 (some .int)) {a1 : Int32} {a2 : Int32} {a3 : Int32} {post : Int32 → Mem → Prop} {k14 : Int32 → Int32 → Int32 → Mem → Prop}  (hk14 : ∀ (x4 : Int32) (x5 : Int32) (x6 : Int32) (σ : Mem), k14 x4 x5 x6 σ → fw_At X G 7 (fw_QI X G post) 14 [(0, .ref (gad G 0)), (1, .int a1), (2, .int a2), (3, .int a3), (4, .int x4), (5, .int x5), (6, .int x6)] [] σ) {x4 : Int32} {x6 : Int32} {s0 : Int32} {s1 : Int32} {σ : Mem} (h : qX4_numbersAt_B48 a1 a2 a3 post k14 x4 x6 s0 s1 σ) : fw_At X G 7 (fw_QI X G post) 48 [(0, .ref (gad G 0)), (1, .int a1), (2, .int a2), (3, .int a3), (4, .int x4), (6, .int x6)] [.int s1, .int s0] σ := by
  unfold qX4_numbersAt_B48 at h
  refine fr_ior (pc := 48) O dX4_numbersAt_48 ?_
  refine fr_nm (fun y5_49 e_y5_49 => ?_)
  have h := h y5_49 e_y5_49
  refine fr_istore (pc := 49) O [1, 2, 3, 4, 5, 0, 6] (lv' := [(0, .ref (gad G 0)), (1, .int a1), (2, .int a2), (3, .int a3), (4, .int x4), (5, .int y5_49), (6, .int x6)]) dX4_numbersAt_49 (by decide) rfl ?_
  refine fr_iinc (pc := 51) O 6 [1, 2, 3, 4, 5, 6, 0] (w := (1 : Int32)) (lvF := fun y6_51 => [(0, .ref (gad G 0)), (1, .int a1), (2, .int a2), (3, .int a3), (4, .int x4), (5, .int y5_49), (6, .int y6_51)]) dX4_numbersAt_51 rfl (by decide) (by decide) (fun _ => rfl) (fun y6_51 e_y6_51 => ?_)
  have h := h y6_51 e_y6_51
  refine fr_goto (pc := 54) (tgt := 14) O dX4_numbersAt_54 (by decide) ?_
  exact hk14 _ _ _ _ h
def qX4_numbersAt_L14 (a1 : Int32) (a2 : Int32) (a3 : Int32) (post : Int32 → Mem → Prop) (k14 : Int32 → Int32 → Int32 → Mem → Prop) (x4 : Int32) (x5 : Int32) (x6 : Int32) (σ : Mem) : Prop := ((a3 ≤ x6 → (vp_in a1 234 ∧ (∀ σ64 : Mem, σ64 = up2 σ 1 a1.toNatClampNeg x4 → post x5 σ64))) ∧ (¬ a3 ≤ x6 → (vp_in a1 234 ∧ (∀ σ27 : Mem, σ27 = up2 σ 1 a1.toNatClampNeg x6 → (qX4_isAsSeen x6 a2 σ27 (fun r34 σ34 => ((r34 = 0 → qX4_numbersAt_B48 a1 a2 a3 post k14 x4 x6 x5 (0 : Int32) σ34) ∧ (¬ r34 = 0 → qX4_numbersAt_B48 a1 a2 a3 post k14 x4 x6 x5 ((1 : Int32) <<< (x6 &&& 31)) σ34))))))))
set_option maxRecDepth 20000 in
theorem kX4_numbersAt_L14 {X : Cx} {G : Gw} (hG : fw_IsM G) (O : fw_Ok X G cX4_numbersAt 7 RX4 4 102 (some .int)) {a1 : Int32} {a2 : Int32} {a3 : Int32} {post : Int32 → Mem → Prop} {k14 : Int32 → Int32 → Int32 → Mem → Prop}  (hk14 : ∀ (x4 : Int32) (x5 : Int32) (x6 : Int32) (σ : Mem), k14 x4 x5 x6 σ → fw_At X G 7 (fw_QI X G post) 14 [(0, .ref (gad G 0)), (1, .int a1), (2, .int a2), (3, .int a3), (4, .int x4), (5, .int x5), (6, .int x6)] [] σ) {x4 : Int32} {x5 : Int32} {x6 : Int32} {σ : Mem} (h : qX4_numbersAt_L14 a1 a2 a3 post k14 x4 x5 x6 σ) : fw_At X G 7 (fw_QI X G post) 14 [(0, .ref (gad G 0)), (1, .int a1), (2, .int a2), (3, .int a3), (4, .int x4), (5, .int x5), (6, .int x6)] [] σ := by
  unfold qX4_numbersAt_L14 at h
  refine fr_iload (pc := 14) O 6 dX4_numbersAt_14 rfl ?_
  refine fr_iload_n (pc := 16) O 3 dX4_numbersAt_16 rfl rfl ?_
  refine fr_icmp_ge (pc := 17) (tgt := 57) O dX4_numbersAt_17 (by decide) (fun c_17 => ?_) (fun c_17 => ?_)
  · have h := h.1 c_17
    refine fr_aload_n (pc := 57) O 0 dX4_numbersAt_57 rfl rfl ?_
    refine fr_get (pc := 58) (k := 0) (v := .ref (gad G 1)) O cl_X4 m_713 (sM_0 hG) (by decide) rfl rfl dX4_numbersAt_58 ?_
    refine fr_iload_n (pc := 61) O 1 dX4_numbersAt_61 rfl rfl ?_
    refine fr_iload (pc := 62) O 4 dX4_numbersAt_62 rfl ?_
    have hi_64 := h.1
    have h := h.2
    refine fr_iast (pc := 64) O (sM_1 hG) hi_64 dX4_numbersAt_64 (fun σ64 e_σ64 => ?_)
    have h := h σ64 e_σ64
    refine fr_iload (pc := 65) O 5 dX4_numbersAt_65 rfl ?_
    exact fr_iret (pc := 67) O dX4_numbersAt_67 h
  · have h := h.2 c_17
    refine fr_aload_n (pc := 20) O 0 dX4_numbersAt_20 rfl rfl ?_
    refine fr_get (pc := 21) (k := 0) (v := .ref (gad G 1)) O cl_X4 m_713 (sM_0 hG) (by decide) rfl rfl dX4_numbersAt_21 ?_
    refine fr_iload_n (pc := 24) O 1 dX4_numbersAt_24 rfl rfl ?_
    refine fr_iload (pc := 25) O 6 dX4_numbersAt_25 rfl ?_
    have hi_27 := h.1
    have h := h.2
    refine fr_iast (pc := 27) O (sM_1 hG) hi_27 dX4_numbersAt_27 (fun σ27 e_σ27 => ?_)
    have h := h σ27 e_σ27
    refine fr_iload (pc := 28) O 5 dX4_numbersAt_28 rfl ?_
    refine fr_aload_n (pc := 30) O 0 dX4_numbersAt_30 rfl rfl ?_
    refine fr_iload (pc := 31) O 6 dX4_numbersAt_31 rfl ?_
    refine fr_iload_n (pc := 33) O 2 dX4_numbersAt_33 rfl rfl ?_
    refine fr_callVI (pc := 34) (st := [.int x5]) O (tX4_isAsSeen X.2.1 hG  h) mt_X4_isAsSeen mv_X4_isAsSeen m_1037 cl_X4 rfl (sM_0 hG) rfl (by decide) rfl (Nat.le_of_ble_eq_true rfl) dX4_numbersAt_34 (fun r34 σ34 h => ?_)
    refine fr_if_eq (pc := 37) (tgt := 47) O dX4_numbersAt_37 (by decide) (fun c_37 => ?_) (fun c_37 => ?_)
    · have h := h.1 c_37
      refine fr_iconst (pc := 47) O (v := (0 : Int32)) dX4_numbersAt_47 (by decide) ?_
      refine fw_sub (lv' := [(0, .ref (gad G 0)), (1, .int a1), (2, .int a2), (3, .int a3), (4, .int x4), (6, .int x6)]) [0, 1, 2, 3, 4, 6] rfl ?_
      exact kX4_numbersAt_B48 hG O hk14 h
    · have h := h.2 c_37
      refine fr_iconst (pc := 40) O (v := (1 : Int32)) dX4_numbersAt_40 (by decide) ?_
      refine fr_iload (pc := 41) O 6 dX4_numbersAt_41 rfl ?_
      refine fr_ishl (pc := 43) O dX4_numbersAt_43 ?_
      refine fr_goto (pc := 44) (tgt := 48) O dX4_numbersAt_44 (by decide) ?_
      refine fw_sub (lv' := [(0, .ref (gad G 0)), (1, .int a1), (2, .int a2), (3, .int a3), (4, .int x4), (6, .int x6)]) [0, 1, 2, 3, 4, 6] rfl ?_
      exact kX4_numbersAt_B48 hG O hk14 h
set_option maxRecDepth 20000 in
theorem kX4_numbersAt_L14w {X : Cx} {G : Gw} (hG : fw_IsM G) (O : fw_Ok X G cX4_numbersAt 7 RX4 4 102 (some .int)) {a1 : Int32} {a2 : Int32} {a3 : Int32} {post : Int32 → Mem → Prop}   {n9 : Nat} {x4 : Int32} {x5 : Int32} {x6 : Int32} {σ : Mem} (h : it3 (qX4_numbersAt_L14 a1 a2 a3 post) n9 x4 x5 x6 σ) : fw_At X G 7 (fw_QI X G post) 14 [(0, .ref (gad G 0)), (1, .int a1), (2, .int a2), (3, .int a3), (4, .int x4), (5, .int x5), (6, .int x6)] [] σ :=
  it3_walk (T := fun x4 x5 x6 σ => fw_At X G 7 (fw_QI X G post) 14 [(0, .ref (gad G 0)), (1, .int a1), (2, .int a2), (3, .int a3), (4, .int x4), (5, .int x5), (6, .int x6)] [] σ) (fun k14 hk14 x4 x5 x6 σ h => kX4_numbersAt_L14 hG O hk14 h) n9 x4 x5 x6 σ h
def qX4_numbersAt (a1 : Int32) (a2 : Int32) (a3 : Int32) (σ : Mem) (post : Int32 → Mem → Prop) : Prop := (vp_in a1 234 ∧ (∀ y4_6 : Int32, y4_6 = σ 1 a1.toNatClampNeg → ∃ n9, it3 (qX4_numbersAt_L14 a1 a2 a3 post) n9 y4_6 (0 : Int32) (0 : Int32) σ))
set_option maxRecDepth 20000 in
theorem kX4_numbersAt {X : Cx} {G : Gw} (hG : fw_IsM G) (O : fw_Ok X G cX4_numbersAt 7 RX4 4 102 (some .int)) {a1 : Int32} {a2 : Int32} {a3 : Int32}  {σ : Mem} {post : Int32 → Mem → Prop} (h : qX4_numbersAt a1 a2 a3 σ post) : fw_At X G 7 (fw_QI X G post) 0 [(0, .ref (gad G 0)), (1, .int a1), (2, .int a2), (3, .int a3)] [] σ := by
  unfold qX4_numbersAt at h
  refine fr_aload_n (pc := 0) O 0 dX4_numbersAt_0 rfl rfl ?_
  refine fr_get (pc := 1) (k := 0) (v := .ref (gad G 1)) O cl_X4 m_713 (sM_0 hG) (by decide) rfl rfl dX4_numbersAt_1 ?_
  refine fr_iload_n (pc := 4) O 1 dX4_numbersAt_4 rfl rfl ?_
  have hi_5 := h.1
  have h := h.2
  refine fr_iald (pc := 5) O (sM_1 hG) hi_5 dX4_numbersAt_5 ?_
  refine fr_nm (fun y4_6 e_y4_6 => ?_)
  have h := h y4_6 e_y4_6
  refine fr_istore (pc := 6) O [1, 2, 3, 4, 0] (lv' := [(0, .ref (gad G 0)), (1, .int a1), (2, .int a2), (3, .int a3), (4, .int y4_6)]) dX4_numbersAt_6 (by decide) rfl ?_
  refine fr_iconst (pc := 8) O (v := (0 : Int32)) dX4_numbersAt_8 (by decide) ?_
  refine fr_istore (pc := 9) O [1, 2, 3, 4, 5, 0] (lv' := [(0, .ref (gad G 0)), (1, .int a1), (2, .int a2), (3, .int a3), (4, .int y4_6), (5, .int (0 : Int32))]) dX4_numbersAt_9 (by decide) rfl ?_
  refine fr_iconst (pc := 11) O (v := (0 : Int32)) dX4_numbersAt_11 (by decide) ?_
  refine fr_istore (pc := 12) O [1, 2, 3, 4, 5, 6, 0] (lv' := [(0, .ref (gad G 0)), (1, .int a1), (2, .int a2), (3, .int a3), (4, .int y4_6), (5, .int (0 : Int32)), (6, .int (0 : Int32))]) dX4_numbersAt_12 (by decide) rfl ?_
  obtain ⟨n9, h⟩ := h
  exact kX4_numbersAt_L14w hG O  h
theorem tX4_numbersAt (l : Launch) {G : Gw} (hG : fw_IsM G) {a1 : Int32} {a2 : Int32} {a3 : Int32}  {σ : Mem} {post : Int32 → Mem → Prop} (h : qX4_numbersAt a1 a2 a3 σ post) : fw_CI l G yX4_numbersAt cX4_numbersAt 7 .int 4 102 [.ref (gad G 0), .int a1, .int a2, .int a3] σ post := fw_ofI (sok_M hG) (by decide) (Nat.le_of_ble_eq_true rfl) (fun X O => kX4_numbersAt hG O  h)
def qX4_kinds_B19 (a1 : Int32) (post : Int32 → Mem → Prop) (s0 : Int32) (σ : Mem) : Prop := post s0 σ
set_option maxRecDepth 20000 in
theorem kX4_kinds_B19 {X : Cx} {G : Gw} (hG : fw_IsM G) (O : fw_Ok X G cX4_kinds 2 RX4 5 128 (some .int)) {a1 : Int32} {post : Int32 → Mem → Prop}   {s0 : Int32} {σ : Mem} (h : qX4_kinds_B19 a1 post s0 σ) : fw_At X G 2 (fw_QI X G post) 19 [(0, .ref (gad G 0)), (1, .int a1)] [.int s0] σ := by
  unfold qX4_kinds_B19 at h
  exact fr_iret (pc := 19) O dX4_kinds_19 h
def qX4_kinds (a1 : Int32) (σ : Mem) (post : Int32 → Mem → Prop) : Prop := (qX4_isWheel a1 σ (fun r2 σ2 => ((r2 = 0 → qX4_kinds_B19 a1 post (-1 : Int32) σ2) ∧ (¬ r2 = 0 → (qX4_numbersAt a1 a1 (4 : Int32) σ2 (fun r12 σ12 => qX4_kinds_B19 a1 post r12 σ12))))))
set_option maxRecDepth 20000 in
theorem kX4_kinds {X : Cx} {G : Gw} (hG : fw_IsM G) (O : fw_Ok X G cX4_kinds 2 RX4 5 128 (some .int)) {a1 : Int32}  {σ : Mem} {post : Int32 → Mem → Prop} (h : qX4_kinds a1 σ post) : fw_At X G 2 (fw_QI X G post) 0 [(0, .ref (gad G 0)), (1, .int a1)] [] σ := by
  unfold qX4_kinds at h
  refine fr_aload_n (pc := 0) O 0 dX4_kinds_0 rfl rfl ?_
  refine fr_iload_n (pc := 1) O 1 dX4_kinds_1 rfl rfl ?_
  refine fr_callVI (pc := 2) (st := []) O (tX4_isWheel X.2.1 hG  h) mt_X4_isWheel mv_X4_isWheel m_857 cl_X4 rfl (sM_0 hG) rfl (by decide) rfl (Nat.le_of_ble_eq_true rfl) dX4_kinds_2 (fun r2 σ2 h => ?_)
  refine fr_if_eq (pc := 5) (tgt := 18) O dX4_kinds_5 (by decide) (fun c_5 => ?_) (fun c_5 => ?_)
  · have h := h.1 c_5
    refine fr_iconst (pc := 18) O (v := (-1 : Int32)) dX4_kinds_18 (by decide) ?_
    exact kX4_kinds_B19 hG O  h
  · have h := h.2 c_5
    refine fr_aload_n (pc := 8) O 0 dX4_kinds_8 rfl rfl ?_
    refine fr_iload_n (pc := 9) O 1 dX4_kinds_9 rfl rfl ?_
    refine fr_iload_n (pc := 10) O 1 dX4_kinds_10 rfl rfl ?_
    refine fr_iconst (pc := 11) O (v := (4 : Int32)) dX4_kinds_11 (by decide) ?_
    refine fr_callVI (pc := 12) (st := []) O (tX4_numbersAt X.2.1 hG  h) mt_X4_numbersAt mv_X4_numbersAt m_1033 cl_X4 rfl (sM_0 hG) rfl (by decide) rfl (Nat.le_of_ble_eq_true rfl) dX4_kinds_12 (fun r12 σ12 h => ?_)
    refine fr_goto (pc := 15) (tgt := 19) O dX4_kinds_15 (by decide) ?_
    exact kX4_kinds_B19 hG O  h
theorem tX4_kinds (l : Launch) {G : Gw} (hG : fw_IsM G) {a1 : Int32}  {σ : Mem} {post : Int32 → Mem → Prop} (h : qX4_kinds a1 σ post) : fw_CI l G yX4_kinds cX4_kinds 2 .int 5 128 [.ref (gad G 0), .int a1] σ post := fw_ofI (sok_M hG) (by decide) (Nat.le_of_ble_eq_true rfl) (fun X O => kX4_kinds hG O  h)
def qX4_losses_B23 (a1 : Int32) (post : Int32 → Mem → Prop) (s0 : Int32) (σ : Mem) : Prop := post s0 σ
set_option maxRecDepth 20000 in
theorem kX4_losses_B23 {X : Cx} {G : Gw} (hG : fw_IsM G) (O : fw_Ok X G cX4_losses 2 RX4 5 128 (some .int)) {a1 : Int32} {post : Int32 → Mem → Prop}   {s0 : Int32} {σ : Mem} (h : qX4_losses_B23 a1 post s0 σ) : fw_At X G 2 (fw_QI X G post) 23 [(0, .ref (gad G 0)), (1, .int a1)] [.int s0] σ := by
  unfold qX4_losses_B23 at h
  exact fr_iret (pc := 23) O dX4_losses_23 h
def qX4_losses (a1 : Int32) (σ : Mem) (post : Int32 → Mem → Prop) : Prop := (qX4_isWheel a1 σ (fun r2 σ2 => ((r2 = 0 → qX4_losses_B23 a1 post (-1 : Int32) σ2) ∧ (¬ r2 = 0 → (qX4_numbersAt ((8 : Int32) + a1) a1 (10 : Int32) σ2 (fun r16 σ16 => qX4_losses_B23 a1 post r16 σ16))))))
set_option maxRecDepth 20000 in
theorem kX4_losses {X : Cx} {G : Gw} (hG : fw_IsM G) (O : fw_Ok X G cX4_losses 2 RX4 5 128 (some .int)) {a1 : Int32}  {σ : Mem} {post : Int32 → Mem → Prop} (h : qX4_losses a1 σ post) : fw_At X G 2 (fw_QI X G post) 0 [(0, .ref (gad G 0)), (1, .int a1)] [] σ := by
  unfold qX4_losses at h
  refine fr_aload_n (pc := 0) O 0 dX4_losses_0 rfl rfl ?_
  refine fr_iload_n (pc := 1) O 1 dX4_losses_1 rfl rfl ?_
  refine fr_callVI (pc := 2) (st := []) O (tX4_isWheel X.2.1 hG  h) mt_X4_isWheel mv_X4_isWheel m_857 cl_X4 rfl (sM_0 hG) rfl (by decide) rfl (Nat.le_of_ble_eq_true rfl) dX4_losses_2 (fun r2 σ2 h => ?_)
  refine fr_if_eq (pc := 5) (tgt := 22) O dX4_losses_5 (by decide) (fun c_5 => ?_) (fun c_5 => ?_)
  · have h := h.1 c_5
    refine fr_iconst (pc := 22) O (v := (-1 : Int32)) dX4_losses_22 (by decide) ?_
    exact kX4_losses_B23 hG O  h
  · have h := h.2 c_5
    refine fr_aload_n (pc := 8) O 0 dX4_losses_8 rfl rfl ?_
    refine fr_bipush (pc := 9) O (v := (8 : Int32)) dX4_losses_9 (by decide) ?_
    refine fr_iload_n (pc := 11) O 1 dX4_losses_11 rfl rfl ?_
    refine fr_iadd (pc := 12) O dX4_losses_12 ?_
    refine fr_iload_n (pc := 13) O 1 dX4_losses_13 rfl rfl ?_
    refine fr_bipush (pc := 14) O (v := (10 : Int32)) dX4_losses_14 (by decide) ?_
    refine fr_callVI (pc := 16) (st := []) O (tX4_numbersAt X.2.1 hG  h) mt_X4_numbersAt mv_X4_numbersAt m_1033 cl_X4 rfl (sM_0 hG) rfl (by decide) rfl (Nat.le_of_ble_eq_true rfl) dX4_losses_16 (fun r16 σ16 h => ?_)
    refine fr_goto (pc := 19) (tgt := 23) O dX4_losses_19 (by decide) ?_
    exact kX4_losses_B23 hG O  h
theorem tX4_losses (l : Launch) {G : Gw} (hG : fw_IsM G) {a1 : Int32}  {σ : Mem} {post : Int32 → Mem → Prop} (h : qX4_losses a1 σ post) : fw_CI l G yX4_losses cX4_losses 2 .int 5 128 [.ref (gad G 0), .int a1] σ post := fw_ofI (sok_M hG) (by decide) (Nat.le_of_ble_eq_true rfl) (fun X O => kX4_losses hG O  h)
def qX4_worstAt_B100 (a1 : Int32) (a2 : Int32) (post : Int32 → Mem → Prop) (k5 : Int32 → Int32 → Mem → Prop) (x4 : Int32) (s0 : Int32) (σ : Mem) : Prop := (∀ y4_101 : Int32, y4_101 = x4 + (1 : Int32) → k5 s0 y4_101 σ)
set_option maxRecDepth 20000 in
theorem kX4_worstAt_B100 {X : Cx} {G : Gw} (hG : fw_IsM G) (O : fw_Ok X G cX4_worstAt 7 RX4 0 0 (some .int)) {a1 : Int32} {a2 : Int32} {post : Int32 → Mem → Prop} {k5 : Int32 → Int32 → Mem → Prop}  (hk5 : ∀ (x3 : Int32) (x4 : Int32) (σ : Mem), k5 x3 x4 σ → fw_At X G 7 (fw_QI X G post) 5 [(0, .ref (gad G 0)), (1, .int a1), (2, .int a2), (3, .int x3), (4, .int x4)] [] σ) {x4 : Int32} {s0 : Int32} {σ : Mem} (h : qX4_worstAt_B100 a1 a2 post k5 x4 s0 σ) : fw_At X G 7 (fw_QI X G post) 100 [(0, .ref (gad G 0)), (1, .int a1), (2, .int a2), (4, .int x4)] [.int s0] σ := by
  unfold qX4_worstAt_B100 at h
  refine fr_istore_n (pc := 100) O [1, 2, 3, 0, 4] (lv' := [(0, .ref (gad G 0)), (1, .int a1), (2, .int a2), (3, .int s0), (4, .int x4)]) dX4_worstAt_100 rfl (by decide) rfl ?_
  refine fr_iinc (pc := 101) O 4 [1, 2, 3, 4, 0] (w := (1 : Int32)) (lvF := fun y4_101 => [(0, .ref (gad G 0)), (1, .int a1), (2, .int a2), (3, .int s0), (4, .int y4_101)]) dX4_worstAt_101 rfl (by decide) (by decide) (fun _ => rfl) (fun y4_101 e_y4_101 => ?_)
  have h := h y4_101 e_y4_101
  refine fr_goto (pc := 104) (tgt := 5) O dX4_worstAt_104 (by decide) ?_
  exact hk5 _ _ _ h
def qX4_worstAt_B88 (a1 : Int32) (a2 : Int32) (post : Int32 → Mem → Prop) (k5 : Int32 → Int32 → Mem → Prop) (x3 : Int32) (x4 : Int32) (x5 : Int32) (σ : Mem) : Prop := ((x5 ≤ x3 → qX4_worstAt_B100 a1 a2 post k5 x4 x3 σ) ∧ (¬ x5 ≤ x3 → qX4_worstAt_B100 a1 a2 post k5 x4 x5 σ))
set_option maxRecDepth 20000 in
theorem kX4_worstAt_B88 {X : Cx} {G : Gw} (hG : fw_IsM G) (O : fw_Ok X G cX4_worstAt 7 RX4 0 0 (some .int)) {a1 : Int32} {a2 : Int32} {post : Int32 → Mem → Prop} {k5 : Int32 → Int32 → Mem → Prop}  (hk5 : ∀ (x3 : Int32) (x4 : Int32) (σ : Mem), k5 x3 x4 σ → fw_At X G 7 (fw_QI X G post) 5 [(0, .ref (gad G 0)), (1, .int a1), (2, .int a2), (3, .int x3), (4, .int x4)] [] σ) {x3 : Int32} {x4 : Int32} {x5 : Int32} {σ : Mem} (h : qX4_worstAt_B88 a1 a2 post k5 x3 x4 x5 σ) : fw_At X G 7 (fw_QI X G post) 88 [(0, .ref (gad G 0)), (1, .int a1), (2, .int a2), (3, .int x3), (4, .int x4), (5, .int x5)] [] σ := by
  unfold qX4_worstAt_B88 at h
  refine fr_iload (pc := 88) O 5 dX4_worstAt_88 rfl ?_
  refine fr_iload_n (pc := 90) O 3 dX4_worstAt_90 rfl rfl ?_
  refine fr_icmp_le (pc := 91) (tgt := 99) O dX4_worstAt_91 (by decide) (fun c_91 => ?_) (fun c_91 => ?_)
  · have h := h.1 c_91
    refine fr_iload_n (pc := 99) O 3 dX4_worstAt_99 rfl rfl ?_
    refine fw_sub (lv' := [(0, .ref (gad G 0)), (1, .int a1), (2, .int a2), (4, .int x4)]) [0, 1, 2, 4] rfl ?_
    exact kX4_worstAt_B100 hG O hk5 h
  · have h := h.2 c_91
    refine fr_iload (pc := 94) O 5 dX4_worstAt_94 rfl ?_
    refine fr_goto (pc := 96) (tgt := 100) O dX4_worstAt_96 (by decide) ?_
    refine fw_sub (lv' := [(0, .ref (gad G 0)), (1, .int a1), (2, .int a2), (4, .int x4)]) [0, 1, 2, 4] rfl ?_
    exact kX4_worstAt_B100 hG O hk5 h
def qX4_worstAt_B79 (a1 : Int32) (a2 : Int32) (post : Int32 → Mem → Prop) (k5 : Int32 → Int32 → Mem → Prop) (k18 : Int32 → Int32 → Int32 → Int32 → Mem → Prop) (x3 : Int32) (x4 : Int32) (x6 : Int32) (s0 : Int32) (s1 : Int32) (σ : Mem) : Prop := (∀ y5_80 : Int32, y5_80 = s0 + s1 → (∀ y6_82 : Int32, y6_82 = x6 + (1 : Int32) → k18 x3 x4 y5_80 y6_82 σ))
set_option maxRecDepth 20000 in
theorem kX4_worstAt_B79 {X : Cx} {G : Gw} (hG : fw_IsM G) (O : fw_Ok X G cX4_worstAt 7 RX4 0 0 (some .int)) {a1 : Int32} {a2 : Int32} {post : Int32 → Mem → Prop} {k5 : Int32 → Int32 → Mem → Prop} {k18 : Int32 → Int32 → Int32 → Int32 → Mem → Prop}  (hk5 : ∀ (x3 : Int32) (x4 : Int32) (σ : Mem), k5 x3 x4 σ → fw_At X G 7 (fw_QI X G post) 5 [(0, .ref (gad G 0)), (1, .int a1), (2, .int a2), (3, .int x3), (4, .int x4)] [] σ) (hk18 : ∀ (x3 : Int32) (x4 : Int32) (x5 : Int32) (x6 : Int32) (σ : Mem), k18 x3 x4 x5 x6 σ → fw_At X G 7 (fw_QI X G post) 18 [(0, .ref (gad G 0)), (1, .int a1), (2, .int a2), (3, .int x3), (4, .int x4), (5, .int x5), (6, .int x6)] [] σ) {x3 : Int32} {x4 : Int32} {x6 : Int32} {s0 : Int32} {s1 : Int32} {σ : Mem} (h : qX4_worstAt_B79 a1 a2 post k5 k18 x3 x4 x6 s0 s1 σ) : fw_At X G 7 (fw_QI X G post) 79 [(0, .ref (gad G 0)), (1, .int a1), (2, .int a2), (3, .int x3), (4, .int x4), (6, .int x6)] [.int s1, .int s0] σ := by
  unfold qX4_worstAt_B79 at h
  refine fr_iadd (pc := 79) O dX4_worstAt_79 ?_
  refine fr_nm (fun y5_80 e_y5_80 => ?_)
  have h := h y5_80 e_y5_80
  refine fr_istore (pc := 80) O [1, 2, 3, 4, 5, 0, 6] (lv' := [(0, .ref (gad G 0)), (1, .int a1), (2, .int a2), (3, .int x3), (4, .int x4), (5, .int y5_80), (6, .int x6)]) dX4_worstAt_80 (by decide) rfl ?_
  refine fr_iinc (pc := 82) O 6 [1, 2, 3, 4, 5, 6, 0] (w := (1 : Int32)) (lvF := fun y6_82 => [(0, .ref (gad G 0)), (1, .int a1), (2, .int a2), (3, .int x3), (4, .int x4), (5, .int y5_80), (6, .int y6_82)]) dX4_worstAt_82 rfl (by decide) (by decide) (fun _ => rfl) (fun y6_82 e_y6_82 => ?_)
  have h := h y6_82 e_y6_82
  refine fr_goto (pc := 85) (tgt := 18) O dX4_worstAt_85 (by decide) ?_
  exact hk18 _ _ _ _ _ h
def qX4_worstAt_B78 (a1 : Int32) (a2 : Int32) (post : Int32 → Mem → Prop) (k5 : Int32 → Int32 → Mem → Prop) (k18 : Int32 → Int32 → Int32 → Int32 → Mem → Prop) (x3 : Int32) (x4 : Int32) (x6 : Int32) (s0 : Int32) (σ : Mem) : Prop := qX4_worstAt_B79 a1 a2 post k5 k18 x3 x4 x6 s0 (0 : Int32) σ
set_option maxRecDepth 20000 in
theorem kX4_worstAt_B78 {X : Cx} {G : Gw} (hG : fw_IsM G) (O : fw_Ok X G cX4_worstAt 7 RX4 0 0 (some .int)) {a1 : Int32} {a2 : Int32} {post : Int32 → Mem → Prop} {k5 : Int32 → Int32 → Mem → Prop} {k18 : Int32 → Int32 → Int32 → Int32 → Mem → Prop}  (hk5 : ∀ (x3 : Int32) (x4 : Int32) (σ : Mem), k5 x3 x4 σ → fw_At X G 7 (fw_QI X G post) 5 [(0, .ref (gad G 0)), (1, .int a1), (2, .int a2), (3, .int x3), (4, .int x4)] [] σ) (hk18 : ∀ (x3 : Int32) (x4 : Int32) (x5 : Int32) (x6 : Int32) (σ : Mem), k18 x3 x4 x5 x6 σ → fw_At X G 7 (fw_QI X G post) 18 [(0, .ref (gad G 0)), (1, .int a1), (2, .int a2), (3, .int x3), (4, .int x4), (5, .int x5), (6, .int x6)] [] σ) {x3 : Int32} {x4 : Int32} {x6 : Int32} {s0 : Int32} {σ : Mem} (h : qX4_worstAt_B78 a1 a2 post k5 k18 x3 x4 x6 s0 σ) : fw_At X G 7 (fw_QI X G post) 78 [(0, .ref (gad G 0)), (1, .int a1), (2, .int a2), (3, .int x3), (4, .int x4), (6, .int x6)] [.int s0] σ := by
  unfold qX4_worstAt_B78 at h
  refine fr_iconst (pc := 78) O (v := (0 : Int32)) dX4_worstAt_78 (by decide) ?_
  exact kX4_worstAt_B79 hG O hk5 hk18 h
def qX4_worstAt_L18 (a1 : Int32) (a2 : Int32) (post : Int32 → Mem → Prop) (k5 : Int32 → Int32 → Mem → Prop) (k18 : Int32 → Int32 → Int32 → Int32 → Mem → Prop) (x3 : Int32) (x4 : Int32) (x5 : Int32) (x6 : Int32) (σ : Mem) : Prop := (((9 : Int32) < x6 → qX4_worstAt_B88 a1 a2 post k5 x3 x4 x5 σ) ∧ (¬ (9 : Int32) < x6 → ((¬ ((a1 >>> (x4 &&& 31)) &&& (1 : Int32)) = (1 : Int32) → qX4_worstAt_B88 a1 a2 post k5 x3 x4 x5 σ) ∧ (((a1 >>> (x4 &&& 31)) &&& (1 : Int32)) = (1 : Int32) → ((¬ ((a1 >>> (x6 &&& 31)) &&& (1 : Int32)) = (1 : Int32) → qX4_worstAt_B78 a1 a2 post k5 k18 x3 x4 x6 x5 σ) ∧ (((a1 >>> (x6 &&& 31)) &&& (1 : Int32)) = (1 : Int32) → (vp_in (((41 : Int32) * x4) + a2) 410 ∧ (vp_in (((41 : Int32) * x6) + a2) 410 ∧ ((¬ (σ 7 (((41 : Int32) * x4) + a2).toNatClampNeg) = (σ 7 (((41 : Int32) * x6) + a2).toNatClampNeg) → qX4_worstAt_B78 a1 a2 post k5 k18 x3 x4 x6 x5 σ) ∧ ((σ 7 (((41 : Int32) * x4) + a2).toNatClampNeg) = (σ 7 (((41 : Int32) * x6) + a2).toNatClampNeg) → qX4_worstAt_B79 a1 a2 post k5 k18 x3 x4 x6 x5 (1 : Int32) σ))))))))))
set_option maxRecDepth 20000 in
theorem kX4_worstAt_L18 {X : Cx} {G : Gw} (hG : fw_IsM G) (O : fw_Ok X G cX4_worstAt 7 RX4 0 0 (some .int)) {a1 : Int32} {a2 : Int32} {post : Int32 → Mem → Prop} {k5 : Int32 → Int32 → Mem → Prop} {k18 : Int32 → Int32 → Int32 → Int32 → Mem → Prop}  (hk5 : ∀ (x3 : Int32) (x4 : Int32) (σ : Mem), k5 x3 x4 σ → fw_At X G 7 (fw_QI X G post) 5 [(0, .ref (gad G 0)), (1, .int a1), (2, .int a2), (3, .int x3), (4, .int x4)] [] σ) (hk18 : ∀ (x3 : Int32) (x4 : Int32) (x5 : Int32) (x6 : Int32) (σ : Mem), k18 x3 x4 x5 x6 σ → fw_At X G 7 (fw_QI X G post) 18 [(0, .ref (gad G 0)), (1, .int a1), (2, .int a2), (3, .int x3), (4, .int x4), (5, .int x5), (6, .int x6)] [] σ) {x3 : Int32} {x4 : Int32} {x5 : Int32} {x6 : Int32} {σ : Mem} (h : qX4_worstAt_L18 a1 a2 post k5 k18 x3 x4 x5 x6 σ) : fw_At X G 7 (fw_QI X G post) 18 [(0, .ref (gad G 0)), (1, .int a1), (2, .int a2), (3, .int x3), (4, .int x4), (5, .int x5), (6, .int x6)] [] σ := by
  unfold qX4_worstAt_L18 at h
  refine fr_iload (pc := 18) O 6 dX4_worstAt_18 rfl ?_
  refine fr_bipush (pc := 20) O (v := (9 : Int32)) dX4_worstAt_20 (by decide) ?_
  refine fr_icmp_gt (pc := 22) (tgt := 88) O dX4_worstAt_22 (by decide) (fun c_22 => ?_) (fun c_22 => ?_)
  · have h := h.1 c_22
    refine fw_sub (lv' := [(0, .ref (gad G 0)), (1, .int a1), (2, .int a2), (3, .int x3), (4, .int x4), (5, .int x5)]) [0, 1, 2, 3, 4, 5] rfl ?_
    exact kX4_worstAt_B88 hG O hk5 h
  · have h := h.2 c_22
    refine fr_iload_n (pc := 25) O 1 dX4_worstAt_25 rfl rfl ?_
    refine fr_iload (pc := 26) O 4 dX4_worstAt_26 rfl ?_
    refine fr_ishr (pc := 28) O dX4_worstAt_28 ?_
    refine fr_iconst (pc := 29) O (v := (1 : Int32)) dX4_worstAt_29 (by decide) ?_
    refine fr_iand (pc := 30) O dX4_worstAt_30 ?_
    refine fr_iconst (pc := 31) O (v := (1 : Int32)) dX4_worstAt_31 (by decide) ?_
    refine fr_icmp_ne (pc := 32) (tgt := 88) O dX4_worstAt_32 (by decide) (fun c_32 => ?_) (fun c_32 => ?_)
    · have h := h.1 c_32
      refine fw_sub (lv' := [(0, .ref (gad G 0)), (1, .int a1), (2, .int a2), (3, .int x3), (4, .int x4), (5, .int x5)]) [0, 1, 2, 3, 4, 5] rfl ?_
      exact kX4_worstAt_B88 hG O hk5 h
    · have h := h.2 c_32
      refine fr_iload (pc := 35) O 5 dX4_worstAt_35 rfl ?_
      refine fr_iload_n (pc := 37) O 1 dX4_worstAt_37 rfl rfl ?_
      refine fr_iload (pc := 38) O 6 dX4_worstAt_38 rfl ?_
      refine fr_ishr (pc := 40) O dX4_worstAt_40 ?_
      refine fr_iconst (pc := 41) O (v := (1 : Int32)) dX4_worstAt_41 (by decide) ?_
      refine fr_iand (pc := 42) O dX4_worstAt_42 ?_
      refine fr_iconst (pc := 43) O (v := (1 : Int32)) dX4_worstAt_43 (by decide) ?_
      refine fr_icmp_ne (pc := 44) (tgt := 78) O dX4_worstAt_44 (by decide) (fun c_44 => ?_) (fun c_44 => ?_)
      · have h := h.1 c_44
        refine fw_sub (lv' := [(0, .ref (gad G 0)), (1, .int a1), (2, .int a2), (3, .int x3), (4, .int x4), (6, .int x6)]) [0, 1, 2, 3, 4, 6] rfl ?_
        exact kX4_worstAt_B78 hG O hk5 hk18 h
      · have h := h.2 c_44
        refine fr_aload_n (pc := 47) O 0 dX4_worstAt_47 rfl rfl ?_
        refine fr_get (pc := 48) (k := 20) (v := .ref (gad G 7)) O cl_X4 m_733 (sM_0 hG) (by decide) rfl rfl dX4_worstAt_48 ?_
        refine fr_bipush (pc := 51) O (v := (41 : Int32)) dX4_worstAt_51 (by decide) ?_
        refine fr_iload (pc := 53) O 4 dX4_worstAt_53 rfl ?_
        refine fr_imul (pc := 55) O dX4_worstAt_55 ?_
        refine fr_iload_n (pc := 56) O 2 dX4_worstAt_56 rfl rfl ?_
        refine fr_iadd (pc := 57) O dX4_worstAt_57 ?_
        have hi_58 := h.1
        have h := h.2
        refine fr_iald (pc := 58) O (sM_7 hG) hi_58 dX4_worstAt_58 ?_
        refine fr_aload_n (pc := 59) O 0 dX4_worstAt_59 rfl rfl ?_
        refine fr_get (pc := 60) (k := 20) (v := .ref (gad G 7)) O cl_X4 m_733 (sM_0 hG) (by decide) rfl rfl dX4_worstAt_60 ?_
        refine fr_bipush (pc := 63) O (v := (41 : Int32)) dX4_worstAt_63 (by decide) ?_
        refine fr_iload (pc := 65) O 6 dX4_worstAt_65 rfl ?_
        refine fr_imul (pc := 67) O dX4_worstAt_67 ?_
        refine fr_iload_n (pc := 68) O 2 dX4_worstAt_68 rfl rfl ?_
        refine fr_iadd (pc := 69) O dX4_worstAt_69 ?_
        have hi_70 := h.1
        have h := h.2
        refine fr_iald (pc := 70) O (sM_7 hG) hi_70 dX4_worstAt_70 ?_
        refine fr_icmp_ne (pc := 71) (tgt := 78) O dX4_worstAt_71 (by decide) (fun c_71 => ?_) (fun c_71 => ?_)
        · have h := h.1 c_71
          refine fw_sub (lv' := [(0, .ref (gad G 0)), (1, .int a1), (2, .int a2), (3, .int x3), (4, .int x4), (6, .int x6)]) [0, 1, 2, 3, 4, 6] rfl ?_
          exact kX4_worstAt_B78 hG O hk5 hk18 h
        · have h := h.2 c_71
          refine fr_iconst (pc := 74) O (v := (1 : Int32)) dX4_worstAt_74 (by decide) ?_
          refine fr_goto (pc := 75) (tgt := 79) O dX4_worstAt_75 (by decide) ?_
          refine fw_sub (lv' := [(0, .ref (gad G 0)), (1, .int a1), (2, .int a2), (3, .int x3), (4, .int x4), (6, .int x6)]) [0, 1, 2, 3, 4, 6] rfl ?_
          exact kX4_worstAt_B79 hG O hk5 hk18 h
set_option maxRecDepth 20000 in
theorem kX4_worstAt_L18w {X : Cx} {G : Gw} (hG : fw_IsM G) (O : fw_Ok X G cX4_worstAt 7 RX4 0 0 (some .int)) {a1 : Int32} {a2 : Int32} {post : Int32 → Mem → Prop} {k5 : Int32 → Int32 → Mem → Prop}  (hk5 : ∀ (x3 : Int32) (x4 : Int32) (σ : Mem), k5 x3 x4 σ → fw_At X G 7 (fw_QI X G post) 5 [(0, .ref (gad G 0)), (1, .int a1), (2, .int a2), (3, .int x3), (4, .int x4)] [] σ) {n9 : Nat} {x3 : Int32} {x4 : Int32} {x5 : Int32} {x6 : Int32} {σ : Mem} (h : it4 (qX4_worstAt_L18 a1 a2 post k5) n9 x3 x4 x5 x6 σ) : fw_At X G 7 (fw_QI X G post) 18 [(0, .ref (gad G 0)), (1, .int a1), (2, .int a2), (3, .int x3), (4, .int x4), (5, .int x5), (6, .int x6)] [] σ :=
  it4_walk (T := fun x3 x4 x5 x6 σ => fw_At X G 7 (fw_QI X G post) 18 [(0, .ref (gad G 0)), (1, .int a1), (2, .int a2), (3, .int x3), (4, .int x4), (5, .int x5), (6, .int x6)] [] σ) (fun k18 hk18 x3 x4 x5 x6 σ h => kX4_worstAt_L18 hG O hk5 hk18 h) n9 x3 x4 x5 x6 σ h
def qX4_worstAt_L5 (a1 : Int32) (a2 : Int32) (post : Int32 → Mem → Prop) (k5 : Int32 → Int32 → Mem → Prop) (x3 : Int32) (x4 : Int32) (σ : Mem) : Prop := (((9 : Int32) < x4 → post x3 σ) ∧ (¬ (9 : Int32) < x4 → ∃ n9, it4 (qX4_worstAt_L18 a1 a2 post k5) n9 x3 x4 (0 : Int32) (0 : Int32) σ))
set_option maxRecDepth 20000 in
theorem kX4_worstAt_L5 {X : Cx} {G : Gw} (hG : fw_IsM G) (O : fw_Ok X G cX4_worstAt 7 RX4 0 0 (some .int)) {a1 : Int32} {a2 : Int32} {post : Int32 → Mem → Prop} {k5 : Int32 → Int32 → Mem → Prop}  (hk5 : ∀ (x3 : Int32) (x4 : Int32) (σ : Mem), k5 x3 x4 σ → fw_At X G 7 (fw_QI X G post) 5 [(0, .ref (gad G 0)), (1, .int a1), (2, .int a2), (3, .int x3), (4, .int x4)] [] σ) {x3 : Int32} {x4 : Int32} {σ : Mem} (h : qX4_worstAt_L5 a1 a2 post k5 x3 x4 σ) : fw_At X G 7 (fw_QI X G post) 5 [(0, .ref (gad G 0)), (1, .int a1), (2, .int a2), (3, .int x3), (4, .int x4)] [] σ := by
  unfold qX4_worstAt_L5 at h
  refine fr_iload (pc := 5) O 4 dX4_worstAt_5 rfl ?_
  refine fr_bipush (pc := 7) O (v := (9 : Int32)) dX4_worstAt_7 (by decide) ?_
  refine fr_icmp_gt (pc := 9) (tgt := 107) O dX4_worstAt_9 (by decide) (fun c_9 => ?_) (fun c_9 => ?_)
  · have h := h.1 c_9
    refine fr_iload_n (pc := 107) O 3 dX4_worstAt_107 rfl rfl ?_
    exact fr_iret (pc := 108) O dX4_worstAt_108 h
  · have h := h.2 c_9
    refine fr_iconst (pc := 12) O (v := (0 : Int32)) dX4_worstAt_12 (by decide) ?_
    refine fr_istore (pc := 13) O [1, 2, 3, 4, 5, 0] (lv' := [(0, .ref (gad G 0)), (1, .int a1), (2, .int a2), (3, .int x3), (4, .int x4), (5, .int (0 : Int32))]) dX4_worstAt_13 (by decide) rfl ?_
    refine fr_iconst (pc := 15) O (v := (0 : Int32)) dX4_worstAt_15 (by decide) ?_
    refine fr_istore (pc := 16) O [1, 2, 3, 4, 5, 6, 0] (lv' := [(0, .ref (gad G 0)), (1, .int a1), (2, .int a2), (3, .int x3), (4, .int x4), (5, .int (0 : Int32)), (6, .int (0 : Int32))]) dX4_worstAt_16 (by decide) rfl ?_
    obtain ⟨n9, h⟩ := h
    exact kX4_worstAt_L18w hG O hk5 h
set_option maxRecDepth 20000 in
theorem kX4_worstAt_L5w {X : Cx} {G : Gw} (hG : fw_IsM G) (O : fw_Ok X G cX4_worstAt 7 RX4 0 0 (some .int)) {a1 : Int32} {a2 : Int32} {post : Int32 → Mem → Prop}   {n9 : Nat} {x3 : Int32} {x4 : Int32} {σ : Mem} (h : it2 (qX4_worstAt_L5 a1 a2 post) n9 x3 x4 σ) : fw_At X G 7 (fw_QI X G post) 5 [(0, .ref (gad G 0)), (1, .int a1), (2, .int a2), (3, .int x3), (4, .int x4)] [] σ :=
  it2_walk (T := fun x3 x4 σ => fw_At X G 7 (fw_QI X G post) 5 [(0, .ref (gad G 0)), (1, .int a1), (2, .int a2), (3, .int x3), (4, .int x4)] [] σ) (fun k5 hk5 x3 x4 σ h => kX4_worstAt_L5 hG O hk5 h) n9 x3 x4 σ h
def qX4_worstAt (a1 : Int32) (a2 : Int32) (σ : Mem) (post : Int32 → Mem → Prop) : Prop := ∃ n9, it2 (qX4_worstAt_L5 a1 a2 post) n9 (0 : Int32) (0 : Int32) σ
set_option maxRecDepth 20000 in
theorem kX4_worstAt {X : Cx} {G : Gw} (hG : fw_IsM G) (O : fw_Ok X G cX4_worstAt 7 RX4 0 0 (some .int)) {a1 : Int32} {a2 : Int32}  {σ : Mem} {post : Int32 → Mem → Prop} (h : qX4_worstAt a1 a2 σ post) : fw_At X G 7 (fw_QI X G post) 0 [(0, .ref (gad G 0)), (1, .int a1), (2, .int a2)] [] σ := by
  unfold qX4_worstAt at h
  refine fr_iconst (pc := 0) O (v := (0 : Int32)) dX4_worstAt_0 (by decide) ?_
  refine fr_istore_n (pc := 1) O [1, 2, 3, 0] (lv' := [(0, .ref (gad G 0)), (1, .int a1), (2, .int a2), (3, .int (0 : Int32))]) dX4_worstAt_1 rfl (by decide) rfl ?_
  refine fr_iconst (pc := 2) O (v := (0 : Int32)) dX4_worstAt_2 (by decide) ?_
  refine fr_istore (pc := 3) O [1, 2, 3, 4, 0] (lv' := [(0, .ref (gad G 0)), (1, .int a1), (2, .int a2), (3, .int (0 : Int32)), (4, .int (0 : Int32))]) dX4_worstAt_3 (by decide) rfl ?_
  obtain ⟨n9, h⟩ := h
  exact kX4_worstAt_L5w hG O  h
theorem tX4_worstAt (l : Launch) {G : Gw} (hG : fw_IsM G) {a1 : Int32} {a2 : Int32}  {σ : Mem} {post : Int32 → Mem → Prop} (h : qX4_worstAt a1 a2 σ post) : fw_CI l G yX4_worstAt cX4_worstAt 7 .int 0 0 [.ref (gad G 0), .int a1, .int a2] σ post := fw_ofI (sok_M hG) (by decide) (Nat.le_of_ble_eq_true rfl) (fun X O => kX4_worstAt hG O  h)
def qX4_ask_B18 (a1 : Int32) (a2 : Int32) (post : Int32 → Mem → Prop) (σ : Mem) : Prop := post (-1 : Int32) σ
set_option maxRecDepth 20000 in
theorem kX4_ask_B18 {X : Cx} {G : Gw} (hG : fw_IsM G) (O : fw_Ok X G cX4_ask 8 RX4 5 128 (some .int)) {a1 : Int32} {a2 : Int32} {post : Int32 → Mem → Prop}    {σ : Mem} (h : qX4_ask_B18 a1 a2 post σ) : fw_At X G 8 (fw_QI X G post) 18 [(0, .ref (gad G 0)), (1, .int a1), (2, .int a2)] [] σ := by
  unfold qX4_ask_B18 at h
  refine fr_iconst (pc := 18) O (v := (-1 : Int32)) dX4_ask_18 (by decide) ?_
  exact fr_iret (pc := 19) O dX4_ask_19 h
def qX4_ask_B141 (a1 : Int32) (a2 : Int32) (post : Int32 → Mem → Prop) (s0 : Int32) (σ : Mem) : Prop := post s0 σ
set_option maxRecDepth 20000 in
theorem kX4_ask_B141 {X : Cx} {G : Gw} (hG : fw_IsM G) (O : fw_Ok X G cX4_ask 8 RX4 5 128 (some .int)) {a1 : Int32} {a2 : Int32} {post : Int32 → Mem → Prop}   {s0 : Int32} {σ : Mem} (h : qX4_ask_B141 a1 a2 post s0 σ) : fw_At X G 8 (fw_QI X G post) 141 [(0, .ref (gad G 0)), (1, .int a1), (2, .int a2)] [.int s0] σ := by
  unfold qX4_ask_B141 at h
  exact fr_iret (pc := 141) O dX4_ask_141 h
def qX4_ask_B134 (a1 : Int32) (a2 : Int32) (post : Int32 → Mem → Prop) (x5 : Int32) (σ : Mem) : Prop := qX4_ask_B141 a1 a2 post x5 σ
set_option maxRecDepth 20000 in
theorem kX4_ask_B134 {X : Cx} {G : Gw} (hG : fw_IsM G) (O : fw_Ok X G cX4_ask 8 RX4 5 128 (some .int)) {a1 : Int32} {a2 : Int32} {post : Int32 → Mem → Prop}   {x5 : Int32} {σ : Mem} (h : qX4_ask_B134 a1 a2 post x5 σ) : fw_At X G 8 (fw_QI X G post) 134 [(0, .ref (gad G 0)), (1, .int a1), (2, .int a2), (5, .int x5)] [] σ := by
  unfold qX4_ask_B134 at h
  refine fr_iload (pc := 134) O 3 dX4_ask_134 rfl ?_
  refine fr_goto (pc := 136) (tgt := 141) O dX4_ask_136 (by decide) ?_
  refine fw_sub (lv' := [(0, .ref (gad G 0)), (1, .int a1), (2, .int a2)]) [0, 1, 2] rfl ?_
  exact kX4_ask_B141 hG O  h
def qX4_ask_B115 (a1 : Int32) (a2 : Int32) (post : Int32 → Mem → Prop) (k69 : Int32 → Int32 → Int32 → Int32 → Mem → Prop) (x3 : Int32) (x5 : Int32) (x6 : Int32) (s0 : Int32) (σ : Mem) : Prop := (∀ y6_117 : Int32, y6_117 = x6 + (1 : Int32) → k69 x3 s0 x5 y6_117 σ)
set_option maxRecDepth 20000 in
theorem kX4_ask_B115 {X : Cx} {G : Gw} (hG : fw_IsM G) (O : fw_Ok X G cX4_ask 8 RX4 5 128 (some .int)) {a1 : Int32} {a2 : Int32} {post : Int32 → Mem → Prop} {k69 : Int32 → Int32 → Int32 → Int32 → Mem → Prop}  (hk69 : ∀ (x3 : Int32) (x4 : Int32) (x5 : Int32) (x6 : Int32) (σ : Mem), k69 x3 x4 x5 x6 σ → fw_At X G 8 (fw_QI X G post) 69 [(0, .ref (gad G 0)), (1, .int a1), (2, .int a2), (3, .int x3), (4, .int x4), (5, .int x5), (6, .int x6)] [] σ) {x3 : Int32} {x5 : Int32} {x6 : Int32} {s0 : Int32} {σ : Mem} (h : qX4_ask_B115 a1 a2 post k69 x3 x5 x6 s0 σ) : fw_At X G 8 (fw_QI X G post) 115 [(0, .ref (gad G 0)), (1, .int a1), (2, .int a2), (3, .int x3), (5, .int x5), (6, .int x6)] [.int s0] σ := by
  unfold qX4_ask_B115 at h
  refine fr_istore (pc := 115) O [1, 2, 3, 4, 0, 5, 6] (lv' := [(0, .ref (gad G 0)), (1, .int a1), (2, .int a2), (3, .int x3), (4, .int s0), (5, .int x5), (6, .int x6)]) dX4_ask_115 (by decide) rfl ?_
  refine fr_iinc (pc := 117) O 6 [1, 2, 3, 4, 5, 6, 0] (w := (1 : Int32)) (lvF := fun y6_117 => [(0, .ref (gad G 0)), (1, .int a1), (2, .int a2), (3, .int x3), (4, .int s0), (5, .int x5), (6, .int y6_117)]) dX4_ask_117 rfl (by decide) (by decide) (fun _ => rfl) (fun y6_117 e_y6_117 => ?_)
  have h := h y6_117 e_y6_117
  refine fr_goto (pc := 120) (tgt := 69) O dX4_ask_120 (by decide) ?_
  exact hk69 _ _ _ _ _ h
def qX4_ask_B99 (a1 : Int32) (a2 : Int32) (post : Int32 → Mem → Prop) (k69 : Int32 → Int32 → Int32 → Int32 → Mem → Prop) (x3 : Int32) (x4 : Int32) (x6 : Int32) (x7 : Int32) (s0 : Int32) (σ : Mem) : Prop := ((x4 ≤ x7 → qX4_ask_B115 a1 a2 post k69 x3 s0 x6 x4 σ) ∧ (¬ x4 ≤ x7 → qX4_ask_B115 a1 a2 post k69 x3 s0 x6 x7 σ))
set_option maxRecDepth 20000 in
theorem kX4_ask_B99 {X : Cx} {G : Gw} (hG : fw_IsM G) (O : fw_Ok X G cX4_ask 8 RX4 5 128 (some .int)) {a1 : Int32} {a2 : Int32} {post : Int32 → Mem → Prop} {k69 : Int32 → Int32 → Int32 → Int32 → Mem → Prop}  (hk69 : ∀ (x3 : Int32) (x4 : Int32) (x5 : Int32) (x6 : Int32) (σ : Mem), k69 x3 x4 x5 x6 σ → fw_At X G 8 (fw_QI X G post) 69 [(0, .ref (gad G 0)), (1, .int a1), (2, .int a2), (3, .int x3), (4, .int x4), (5, .int x5), (6, .int x6)] [] σ) {x3 : Int32} {x4 : Int32} {x6 : Int32} {x7 : Int32} {s0 : Int32} {σ : Mem} (h : qX4_ask_B99 a1 a2 post k69 x3 x4 x6 x7 s0 σ) : fw_At X G 8 (fw_QI X G post) 99 [(0, .ref (gad G 0)), (1, .int a1), (2, .int a2), (3, .int x3), (4, .int x4), (6, .int x6), (7, .int x7)] [.int s0] σ := by
  unfold qX4_ask_B99 at h
  refine fr_istore (pc := 99) O [1, 2, 3, 4, 5, 0, 6, 7] (lv' := [(0, .ref (gad G 0)), (1, .int a1), (2, .int a2), (3, .int x3), (4, .int x4), (5, .int s0), (6, .int x6), (7, .int x7)]) dX4_ask_99 (by decide) rfl ?_
  refine fr_iload (pc := 101) O 7 dX4_ask_101 rfl ?_
  refine fr_iload (pc := 103) O 4 dX4_ask_103 rfl ?_
  refine fr_icmp_ge (pc := 105) (tgt := 113) O dX4_ask_105 (by decide) (fun c_105 => ?_) (fun c_105 => ?_)
  · have h := h.1 c_105
    refine fr_iload (pc := 113) O 4 dX4_ask_113 rfl ?_
    refine fw_sub (lv' := [(0, .ref (gad G 0)), (1, .int a1), (2, .int a2), (3, .int x3), (5, .int s0), (6, .int x6)]) [0, 1, 2, 3, 5, 6] rfl ?_
    exact kX4_ask_B115 hG O hk69 h
  · have h := h.2 c_105
    refine fr_iload (pc := 108) O 7 dX4_ask_108 rfl ?_
    refine fr_goto (pc := 110) (tgt := 115) O dX4_ask_110 (by decide) ?_
    refine fw_sub (lv' := [(0, .ref (gad G 0)), (1, .int a1), (2, .int a2), (3, .int x3), (5, .int s0), (6, .int x6)]) [0, 1, 2, 3, 5, 6] rfl ?_
    exact kX4_ask_B115 hG O hk69 h
def qX4_ask_L69 (a1 : Int32) (a2 : Int32) (post : Int32 → Mem → Prop) (k69 : Int32 → Int32 → Int32 → Int32 → Mem → Prop) (x3 : Int32) (x4 : Int32) (x5 : Int32) (x6 : Int32) (σ : Mem) : Prop := (((40 : Int32) < x6 → ((x5 = (-4 : Int32) → qX4_ask_B134 a1 a2 post x5 σ) ∧ (¬ x5 = (-4 : Int32) → ((¬ a2 = 0 → qX4_ask_B141 a1 a2 post x4 σ) ∧ (a2 = 0 → qX4_ask_B134 a1 a2 post x5 σ))))) ∧ (¬ (40 : Int32) < x6 → (qX4_worstAt x3 x6 σ (fun r80 σ80 => ((x4 ≤ r80 → qX4_ask_B99 a1 a2 post k69 x3 x4 x6 r80 x5 σ80) ∧ (¬ x4 ≤ r80 → qX4_ask_B99 a1 a2 post k69 x3 x4 x6 r80 x6 σ80))))))
set_option maxRecDepth 20000 in
theorem kX4_ask_L69 {X : Cx} {G : Gw} (hG : fw_IsM G) (O : fw_Ok X G cX4_ask 8 RX4 5 128 (some .int)) {a1 : Int32} {a2 : Int32} {post : Int32 → Mem → Prop} {k69 : Int32 → Int32 → Int32 → Int32 → Mem → Prop}  (hk69 : ∀ (x3 : Int32) (x4 : Int32) (x5 : Int32) (x6 : Int32) (σ : Mem), k69 x3 x4 x5 x6 σ → fw_At X G 8 (fw_QI X G post) 69 [(0, .ref (gad G 0)), (1, .int a1), (2, .int a2), (3, .int x3), (4, .int x4), (5, .int x5), (6, .int x6)] [] σ) {x3 : Int32} {x4 : Int32} {x5 : Int32} {x6 : Int32} {σ : Mem} (h : qX4_ask_L69 a1 a2 post k69 x3 x4 x5 x6 σ) : fw_At X G 8 (fw_QI X G post) 69 [(0, .ref (gad G 0)), (1, .int a1), (2, .int a2), (3, .int x3), (4, .int x4), (5, .int x5), (6, .int x6)] [] σ := by
  unfold qX4_ask_L69 at h
  refine fr_iload (pc := 69) O 6 dX4_ask_69 rfl ?_
  refine fr_bipush (pc := 71) O (v := (40 : Int32)) dX4_ask_71 (by decide) ?_
  refine fr_icmp_gt (pc := 73) (tgt := 123) O dX4_ask_73 (by decide) (fun c_73 => ?_) (fun c_73 => ?_)
  · have h := h.1 c_73
    refine fr_iload (pc := 123) O 5 dX4_ask_123 rfl ?_
    refine fr_bipush (pc := 125) O (v := (-4 : Int32)) dX4_ask_125 (by decide) ?_
    refine fr_icmp_eq (pc := 127) (tgt := 134) O dX4_ask_127 (by decide) (fun c_127 => ?_) (fun c_127 => ?_)
    · have h := h.1 c_127
      refine fw_sub (lv' := [(0, .ref (gad G 0)), (1, .int a1), (2, .int a2), (5, .int x5)]) [0, 1, 2, 5] rfl ?_
      exact kX4_ask_B134 hG O  h
    · have h := h.2 c_127
      refine fr_iload_n (pc := 130) O 2 dX4_ask_130 rfl rfl ?_
      refine fr_if_ne (pc := 131) (tgt := 139) O dX4_ask_131 (by decide) (fun c_131 => ?_) (fun c_131 => ?_)
      · have h := h.1 c_131
        refine fr_iload (pc := 139) O 4 dX4_ask_139 rfl ?_
        refine fw_sub (lv' := [(0, .ref (gad G 0)), (1, .int a1), (2, .int a2)]) [0, 1, 2] rfl ?_
        exact kX4_ask_B141 hG O  h
      · have h := h.2 c_131
        refine fw_sub (lv' := [(0, .ref (gad G 0)), (1, .int a1), (2, .int a2), (5, .int x5)]) [0, 1, 2, 5] rfl ?_
        exact kX4_ask_B134 hG O  h
  · have h := h.2 c_73
    refine fr_aload_n (pc := 76) O 0 dX4_ask_76 rfl rfl ?_
    refine fr_iload_n (pc := 77) O 3 dX4_ask_77 rfl rfl ?_
    refine fr_iload (pc := 78) O 6 dX4_ask_78 rfl ?_
    refine fr_callVI (pc := 80) (st := []) O (tX4_worstAt X.2.1 hG  h) mt_X4_worstAt mv_X4_worstAt m_1049 cl_X4 rfl (sM_0 hG) rfl (by decide) rfl (Nat.le_of_ble_eq_true rfl) dX4_ask_80 (fun r80 σ80 h => ?_)
    refine fr_istore (pc := 83) O [1, 2, 3, 4, 5, 6, 7, 0] (lv' := [(0, .ref (gad G 0)), (1, .int a1), (2, .int a2), (3, .int x3), (4, .int x4), (5, .int x5), (6, .int x6), (7, .int r80)]) dX4_ask_83 (by decide) rfl ?_
    refine fr_iload (pc := 85) O 7 dX4_ask_85 rfl ?_
    refine fr_iload (pc := 87) O 4 dX4_ask_87 rfl ?_
    refine fr_icmp_ge (pc := 89) (tgt := 97) O dX4_ask_89 (by decide) (fun c_89 => ?_) (fun c_89 => ?_)
    · have h := h.1 c_89
      refine fr_iload (pc := 97) O 5 dX4_ask_97 rfl ?_
      refine fw_sub (lv' := [(0, .ref (gad G 0)), (1, .int a1), (2, .int a2), (3, .int x3), (4, .int x4), (6, .int x6), (7, .int r80)]) [0, 1, 2, 3, 4, 6, 7] rfl ?_
      exact kX4_ask_B99 hG O hk69 h
    · have h := h.2 c_89
      refine fr_iload (pc := 92) O 6 dX4_ask_92 rfl ?_
      refine fr_goto (pc := 94) (tgt := 99) O dX4_ask_94 (by decide) ?_
      refine fw_sub (lv' := [(0, .ref (gad G 0)), (1, .int a1), (2, .int a2), (3, .int x3), (4, .int x4), (6, .int x6), (7, .int r80)]) [0, 1, 2, 3, 4, 6, 7] rfl ?_
      exact kX4_ask_B99 hG O hk69 h
set_option maxRecDepth 20000 in
theorem kX4_ask_L69w {X : Cx} {G : Gw} (hG : fw_IsM G) (O : fw_Ok X G cX4_ask 8 RX4 5 128 (some .int)) {a1 : Int32} {a2 : Int32} {post : Int32 → Mem → Prop}   {n9 : Nat} {x3 : Int32} {x4 : Int32} {x5 : Int32} {x6 : Int32} {σ : Mem} (h : it4 (qX4_ask_L69 a1 a2 post) n9 x3 x4 x5 x6 σ) : fw_At X G 8 (fw_QI X G post) 69 [(0, .ref (gad G 0)), (1, .int a1), (2, .int a2), (3, .int x3), (4, .int x4), (5, .int x5), (6, .int x6)] [] σ :=
  it4_walk (T := fun x3 x4 x5 x6 σ => fw_At X G 8 (fw_QI X G post) 69 [(0, .ref (gad G 0)), (1, .int a1), (2, .int a2), (3, .int x3), (4, .int x4), (5, .int x5), (6, .int x6)] [] σ) (fun k69 hk69 x3 x4 x5 x6 σ h => kX4_ask_L69 hG O hk69 h) n9 x3 x4 x5 x6 σ h
def qX4_ask_L38 (a1 : Int32) (a2 : Int32) (post : Int32 → Mem → Prop) (k38 : Int32 → Int32 → Int32 → Mem → Prop) (x3 : Int32) (x4 : Int32) (x5 : Int32) (σ : Mem) : Prop := (((9 : Int32) < x5 → ∃ n9, it4 (qX4_ask_L69 a1 a2 post) n9 x3 x4 (-4 : Int32) (0 : Int32) σ) ∧ (¬ (9 : Int32) < x5 → (∀ y4_54 : Int32, y4_54 = x4 + ((x3 >>> (x5 &&& 31)) &&& (1 : Int32)) → (∀ y5_56 : Int32, y5_56 = x5 + (1 : Int32) → k38 x3 y4_54 y5_56 σ))))
set_option maxRecDepth 20000 in
theorem kX4_ask_L38 {X : Cx} {G : Gw} (hG : fw_IsM G) (O : fw_Ok X G cX4_ask 8 RX4 5 128 (some .int)) {a1 : Int32} {a2 : Int32} {post : Int32 → Mem → Prop} {k38 : Int32 → Int32 → Int32 → Mem → Prop}  (hk38 : ∀ (x3 : Int32) (x4 : Int32) (x5 : Int32) (σ : Mem), k38 x3 x4 x5 σ → fw_At X G 8 (fw_QI X G post) 38 [(0, .ref (gad G 0)), (1, .int a1), (2, .int a2), (3, .int x3), (4, .int x4), (5, .int x5)] [] σ) {x3 : Int32} {x4 : Int32} {x5 : Int32} {σ : Mem} (h : qX4_ask_L38 a1 a2 post k38 x3 x4 x5 σ) : fw_At X G 8 (fw_QI X G post) 38 [(0, .ref (gad G 0)), (1, .int a1), (2, .int a2), (3, .int x3), (4, .int x4), (5, .int x5)] [] σ := by
  unfold qX4_ask_L38 at h
  refine fr_iload (pc := 38) O 5 dX4_ask_38 rfl ?_
  refine fr_bipush (pc := 40) O (v := (9 : Int32)) dX4_ask_40 (by decide) ?_
  refine fr_icmp_gt (pc := 42) (tgt := 62) O dX4_ask_42 (by decide) (fun c_42 => ?_) (fun c_42 => ?_)
  · have h := h.1 c_42
    refine fr_bipush (pc := 62) O (v := (-4 : Int32)) dX4_ask_62 (by decide) ?_
    refine fr_istore (pc := 64) O [1, 2, 3, 4, 5, 0] (lv' := [(0, .ref (gad G 0)), (1, .int a1), (2, .int a2), (3, .int x3), (4, .int x4), (5, .int (-4 : Int32))]) dX4_ask_64 (by decide) rfl ?_
    refine fr_iconst (pc := 66) O (v := (0 : Int32)) dX4_ask_66 (by decide) ?_
    refine fr_istore (pc := 67) O [1, 2, 3, 4, 5, 6, 0] (lv' := [(0, .ref (gad G 0)), (1, .int a1), (2, .int a2), (3, .int x3), (4, .int x4), (5, .int (-4 : Int32)), (6, .int (0 : Int32))]) dX4_ask_67 (by decide) rfl ?_
    obtain ⟨n9, h⟩ := h
    exact kX4_ask_L69w hG O  h
  · have h := h.2 c_42
    refine fr_iload (pc := 45) O 4 dX4_ask_45 rfl ?_
    refine fr_iload_n (pc := 47) O 3 dX4_ask_47 rfl rfl ?_
    refine fr_iload (pc := 48) O 5 dX4_ask_48 rfl ?_
    refine fr_ishr (pc := 50) O dX4_ask_50 ?_
    refine fr_iconst (pc := 51) O (v := (1 : Int32)) dX4_ask_51 (by decide) ?_
    refine fr_iand (pc := 52) O dX4_ask_52 ?_
    refine fr_iadd (pc := 53) O dX4_ask_53 ?_
    refine fr_nm (fun y4_54 e_y4_54 => ?_)
    have h := h y4_54 e_y4_54
    refine fr_istore (pc := 54) O [1, 2, 3, 4, 0, 5] (lv' := [(0, .ref (gad G 0)), (1, .int a1), (2, .int a2), (3, .int x3), (4, .int y4_54), (5, .int x5)]) dX4_ask_54 (by decide) rfl ?_
    refine fr_iinc (pc := 56) O 5 [1, 2, 3, 4, 5, 0] (w := (1 : Int32)) (lvF := fun y5_56 => [(0, .ref (gad G 0)), (1, .int a1), (2, .int a2), (3, .int x3), (4, .int y4_54), (5, .int y5_56)]) dX4_ask_56 rfl (by decide) (by decide) (fun _ => rfl) (fun y5_56 e_y5_56 => ?_)
    have h := h y5_56 e_y5_56
    refine fr_goto (pc := 59) (tgt := 38) O dX4_ask_59 (by decide) ?_
    exact hk38 _ _ _ _ h
set_option maxRecDepth 20000 in
theorem kX4_ask_L38w {X : Cx} {G : Gw} (hG : fw_IsM G) (O : fw_Ok X G cX4_ask 8 RX4 5 128 (some .int)) {a1 : Int32} {a2 : Int32} {post : Int32 → Mem → Prop}   {n9 : Nat} {x3 : Int32} {x4 : Int32} {x5 : Int32} {σ : Mem} (h : it3 (qX4_ask_L38 a1 a2 post) n9 x3 x4 x5 σ) : fw_At X G 8 (fw_QI X G post) 38 [(0, .ref (gad G 0)), (1, .int a1), (2, .int a2), (3, .int x3), (4, .int x4), (5, .int x5)] [] σ :=
  it3_walk (T := fun x3 x4 x5 σ => fw_At X G 8 (fw_QI X G post) 38 [(0, .ref (gad G 0)), (1, .int a1), (2, .int a2), (3, .int x3), (4, .int x4), (5, .int x5)] [] σ) (fun k38 hk38 x3 x4 x5 σ h => kX4_ask_L38 hG O hk38 h) n9 x3 x4 x5 σ h
def qX4_ask (a1 : Int32) (a2 : Int32) (σ : Mem) (post : Int32 → Mem → Prop) : Prop := (qX4_isWheel a1 σ (fun r2 σ2 => ((r2 = 0 → qX4_ask_B18 a1 a2 post σ2) ∧ (¬ r2 = 0 → (qX4_in a2.toInt64 (0 : Int64) (1 : Int64) σ2 (fun r12 σ12 => ((¬ r12 = 0 → (qX4_numbersAt ((8 : Int32) + a1) a1 (10 : Int32) σ12 (fun r28 σ28 => ∃ n9, it3 (qX4_ask_L38 a1 a2 post) n9 r28 (0 : Int32) (0 : Int32) σ28))) ∧ (r12 = 0 → qX4_ask_B18 a1 a2 post σ12))))))))
set_option maxRecDepth 20000 in
theorem kX4_ask {X : Cx} {G : Gw} (hG : fw_IsM G) (O : fw_Ok X G cX4_ask 8 RX4 5 128 (some .int)) {a1 : Int32} {a2 : Int32}  {σ : Mem} {post : Int32 → Mem → Prop} (h : qX4_ask a1 a2 σ post) : fw_At X G 8 (fw_QI X G post) 0 [(0, .ref (gad G 0)), (1, .int a1), (2, .int a2)] [] σ := by
  unfold qX4_ask at h
  refine fr_aload_n (pc := 0) O 0 dX4_ask_0 rfl rfl ?_
  refine fr_iload_n (pc := 1) O 1 dX4_ask_1 rfl rfl ?_
  refine fr_callVI (pc := 2) (st := []) O (tX4_isWheel X.2.1 hG  h) mt_X4_isWheel mv_X4_isWheel m_857 cl_X4 rfl (sM_0 hG) rfl (by decide) rfl (Nat.le_of_ble_eq_true rfl) dX4_ask_2 (fun r2 σ2 h => ?_)
  refine fr_if_eq (pc := 5) (tgt := 18) O dX4_ask_5 (by decide) (fun c_5 => ?_) (fun c_5 => ?_)
  · have h := h.1 c_5
    exact kX4_ask_B18 hG O  h
  · have h := h.2 c_5
    refine fr_iload_n (pc := 8) O 2 dX4_ask_8 rfl rfl ?_
    refine fr_i2l (pc := 9) O dX4_ask_9 ?_
    refine fr_lconst (pc := 10) O (v := (0 : Int64)) dX4_ask_10 (by decide) ?_
    refine fr_lconst (pc := 11) O (v := (1 : Int64)) dX4_ask_11 (by decide) ?_
    refine fr_callSI (pc := 12) (st := []) O (tX4_in X.2.1 hG  h) mt_X4_in m_798 m_797 rfl (by decide) rfl (Nat.le_of_ble_eq_true rfl) dX4_ask_12 (fun r12 σ12 h => ?_)
    refine fr_if_ne (pc := 15) (tgt := 20) O dX4_ask_15 (by decide) (fun c_15 => ?_) (fun c_15 => ?_)
    · have h := h.1 c_15
      refine fr_aload_n (pc := 20) O 0 dX4_ask_20 rfl rfl ?_
      refine fr_bipush (pc := 21) O (v := (8 : Int32)) dX4_ask_21 (by decide) ?_
      refine fr_iload_n (pc := 23) O 1 dX4_ask_23 rfl rfl ?_
      refine fr_iadd (pc := 24) O dX4_ask_24 ?_
      refine fr_iload_n (pc := 25) O 1 dX4_ask_25 rfl rfl ?_
      refine fr_bipush (pc := 26) O (v := (10 : Int32)) dX4_ask_26 (by decide) ?_
      refine fr_callVI (pc := 28) (st := []) O (tX4_numbersAt X.2.1 hG  h) mt_X4_numbersAt mv_X4_numbersAt m_1033 cl_X4 rfl (sM_0 hG) rfl (by decide) rfl (Nat.le_of_ble_eq_true rfl) dX4_ask_28 (fun r28 σ28 h => ?_)
      refine fr_istore_n (pc := 31) O [1, 2, 3, 0] (lv' := [(0, .ref (gad G 0)), (1, .int a1), (2, .int a2), (3, .int r28)]) dX4_ask_31 rfl (by decide) rfl ?_
      refine fr_iconst (pc := 32) O (v := (0 : Int32)) dX4_ask_32 (by decide) ?_
      refine fr_istore (pc := 33) O [1, 2, 3, 4, 0] (lv' := [(0, .ref (gad G 0)), (1, .int a1), (2, .int a2), (3, .int r28), (4, .int (0 : Int32))]) dX4_ask_33 (by decide) rfl ?_
      refine fr_iconst (pc := 35) O (v := (0 : Int32)) dX4_ask_35 (by decide) ?_
      refine fr_istore (pc := 36) O [1, 2, 3, 4, 5, 0] (lv' := [(0, .ref (gad G 0)), (1, .int a1), (2, .int a2), (3, .int r28), (4, .int (0 : Int32)), (5, .int (0 : Int32))]) dX4_ask_36 (by decide) rfl ?_
      obtain ⟨n9, h⟩ := h
      exact kX4_ask_L38w hG O  h
    · have h := h.2 c_15
      exact kX4_ask_B18 hG O  h
theorem tX4_ask (l : Launch) {G : Gw} (hG : fw_IsM G) {a1 : Int32} {a2 : Int32}  {σ : Mem} {post : Int32 → Mem → Prop} (h : qX4_ask a1 a2 σ post) : fw_CI l G yX4_ask cX4_ask 8 .int 5 128 [.ref (gad G 0), .int a1, .int a2] σ post := fw_ofI (sok_M hG) (by decide) (Nat.le_of_ble_eq_true rfl) (fun X O => kX4_ask hG O  h)
def qX4_drift_B22 (a1 : Int32) (a2 : Int32) (a3 : Int32) (post : Int32 → Mem → Prop) (σ : Mem) : Prop := post (-1 : Int32) σ
set_option maxRecDepth 20000 in
theorem kX4_drift_B22 {X : Cx} {G : Gw} (hG : fw_IsM G) (O : fw_Ok X G cX4_drift 6 RX4 2 52 (some .int)) {a1 : Int32} {a2 : Int32} {a3 : Int32} {post : Int32 → Mem → Prop}    {σ : Mem} (h : qX4_drift_B22 a1 a2 a3 post σ) : fw_At X G 6 (fw_QI X G post) 22 [(0, .ref (gad G 0)), (1, .int a1), (2, .int a2), (3, .int a3)] [] σ := by
  unfold qX4_drift_B22 at h
  refine fr_iconst (pc := 22) O (v := (-1 : Int32)) dX4_drift_22 (by decide) ?_
  exact fr_iret (pc := 23) O dX4_drift_23 h
def qX4_drift_B132 (a1 : Int32) (a2 : Int32) (a3 : Int32) (post : Int32 → Mem → Prop) (s0 : Int32) (σ : Mem) : Prop := post s0 σ
set_option maxRecDepth 20000 in
theorem kX4_drift_B132 {X : Cx} {G : Gw} (hG : fw_IsM G) (O : fw_Ok X G cX4_drift 6 RX4 2 52 (some .int)) {a1 : Int32} {a2 : Int32} {a3 : Int32} {post : Int32 → Mem → Prop}   {s0 : Int32} {σ : Mem} (h : qX4_drift_B132 a1 a2 a3 post s0 σ) : fw_At X G 6 (fw_QI X G post) 132 [(0, .ref (gad G 0)), (1, .int a1), (2, .int a2), (3, .int a3)] [.int s0] σ := by
  unfold qX4_drift_B132 at h
  exact fr_iret (pc := 132) O dX4_drift_132 h
def qX4_drift_L51 (a1 : Int32) (a2 : Int32) (a3 : Int32) (post : Int32 → Mem → Prop) (k51 : Int32 → Int32 → Mem → Prop) (x4 : Int32) (x5 : Int32) (σ : Mem) : Prop := ((a2 ≤ x5 → ((¬ a3 = 0 → (qX4_swingOn (156 : Int32) σ (fun r129 σ129 => qX4_drift_B132 a1 a2 a3 post r129 σ129))) ∧ (a3 = 0 → (vp_in (193 : Int32) 234 ∧ (vp_in (37 : Int32) 234 ∧ qX4_drift_B132 a1 a2 a3 post ((σ 1 (193 : Int32).toNatClampNeg) - (σ 1 (37 : Int32).toNatClampNeg)) σ))))) ∧ (¬ a2 ≤ x5 → (∀ y4_66 : Int32, y4_66 = (x4 * (1103515245 : Int32)) + (12345 : Int32) → (¬ (204 : Int32) = 0 ∧ (qX4_actOn (156 : Int32) (((y4_66 >>> ((16 : Int32) &&& 31)) &&& (32767 : Int32)) - ((y4_66 >>> ((16 : Int32) &&& 31)) &&& (32767 : Int32)) / (204 : Int32) * (204 : Int32)) (0 : Int32) σ (fun σ86 => (qX4_lossesOn (156 : Int32) σ86 (fun σ93 => (∀ y5_96 : Int32, y5_96 = x5 + (1 : Int32) → k51 y4_66 y5_96 σ93)))))))))
set_option maxRecDepth 20000 in
theorem kX4_drift_L51 {X : Cx} {G : Gw} (hG : fw_IsM G) (O : fw_Ok X G cX4_drift 6 RX4 2 52 (some .int)) {a1 : Int32} {a2 : Int32} {a3 : Int32} {post : Int32 → Mem → Prop} {k51 : Int32 → Int32 → Mem → Prop}  (hk51 : ∀ (x4 : Int32) (x5 : Int32) (σ : Mem), k51 x4 x5 σ → fw_At X G 6 (fw_QI X G post) 51 [(0, .ref (gad G 0)), (1, .int a1), (2, .int a2), (3, .int a3), (4, .int x4), (5, .int x5)] [] σ) {x4 : Int32} {x5 : Int32} {σ : Mem} (h : qX4_drift_L51 a1 a2 a3 post k51 x4 x5 σ) : fw_At X G 6 (fw_QI X G post) 51 [(0, .ref (gad G 0)), (1, .int a1), (2, .int a2), (3, .int a3), (4, .int x4), (5, .int x5)] [] σ := by
  unfold qX4_drift_L51 at h
  refine fr_iload (pc := 51) O 5 dX4_drift_51 rfl ?_
  refine fr_iload_n (pc := 53) O 2 dX4_drift_53 rfl rfl ?_
  refine fr_icmp_ge (pc := 54) (tgt := 102) O dX4_drift_54 (by decide) (fun c_54 => ?_) (fun c_54 => ?_)
  · have h := h.1 c_54
    refine fr_iload_n (pc := 102) O 3 dX4_drift_102 rfl rfl ?_
    refine fr_if_ne (pc := 103) (tgt := 125) O dX4_drift_103 (by decide) (fun c_103 => ?_) (fun c_103 => ?_)
    · have h := h.1 c_103
      refine fr_aload_n (pc := 125) O 0 dX4_drift_125 rfl rfl ?_
      refine fr_sipush (pc := 126) O (v := (156 : Int32)) dX4_drift_126 (by decide) ?_
      refine fr_callVI (pc := 129) (st := []) O (tX4_swingOn X.2.1 hG  h) mt_X4_swingOn mv_X4_swingOn m_957 cl_X4 rfl (sM_0 hG) rfl (by decide) rfl (Nat.le_of_ble_eq_true rfl) dX4_drift_129 (fun r129 σ129 h => ?_)
      refine fw_sub (lv' := [(0, .ref (gad G 0)), (1, .int a1), (2, .int a2), (3, .int a3)]) [0, 1, 2, 3] rfl ?_
      exact kX4_drift_B132 hG O  h
    · have h := h.2 c_103
      refine fr_aload_n (pc := 106) O 0 dX4_drift_106 rfl rfl ?_
      refine fr_get (pc := 107) (k := 0) (v := .ref (gad G 1)) O cl_X4 m_713 (sM_0 hG) (by decide) rfl rfl dX4_drift_107 ?_
      refine fr_sipush (pc := 110) O (v := (193 : Int32)) dX4_drift_110 (by decide) ?_
      have hi_113 := h.1
      have h := h.2
      refine fr_iald (pc := 113) O (sM_1 hG) hi_113 dX4_drift_113 ?_
      refine fr_aload_n (pc := 114) O 0 dX4_drift_114 rfl rfl ?_
      refine fr_get (pc := 115) (k := 0) (v := .ref (gad G 1)) O cl_X4 m_713 (sM_0 hG) (by decide) rfl rfl dX4_drift_115 ?_
      refine fr_bipush (pc := 118) O (v := (37 : Int32)) dX4_drift_118 (by decide) ?_
      have hi_120 := h.1
      have h := h.2
      refine fr_iald (pc := 120) O (sM_1 hG) hi_120 dX4_drift_120 ?_
      refine fr_isub (pc := 121) O dX4_drift_121 ?_
      refine fr_goto (pc := 122) (tgt := 132) O dX4_drift_122 (by decide) ?_
      refine fw_sub (lv' := [(0, .ref (gad G 0)), (1, .int a1), (2, .int a2), (3, .int a3)]) [0, 1, 2, 3] rfl ?_
      exact kX4_drift_B132 hG O  h
  · have h := h.2 c_54
    refine fr_iload (pc := 57) O 4 dX4_drift_57 rfl ?_
    refine fr_ldc (pc := 59) O m_1057 dX4_drift_59 ?_
    refine fr_imul (pc := 61) O dX4_drift_61 ?_
    refine fr_sipush (pc := 62) O (v := (12345 : Int32)) dX4_drift_62 (by decide) ?_
    refine fr_iadd (pc := 65) O dX4_drift_65 ?_
    refine fr_nm (fun y4_66 e_y4_66 => ?_)
    have h := h y4_66 e_y4_66
    refine fr_istore (pc := 66) O [1, 2, 3, 4, 0, 5] (lv' := [(0, .ref (gad G 0)), (1, .int a1), (2, .int a2), (3, .int a3), (4, .int y4_66), (5, .int x5)]) dX4_drift_66 (by decide) rfl ?_
    refine fr_aload_n (pc := 68) O 0 dX4_drift_68 rfl rfl ?_
    refine fr_sipush (pc := 69) O (v := (156 : Int32)) dX4_drift_69 (by decide) ?_
    refine fr_iload (pc := 72) O 4 dX4_drift_72 rfl ?_
    refine fr_bipush (pc := 74) O (v := (16 : Int32)) dX4_drift_74 (by decide) ?_
    refine fr_ishr (pc := 76) O dX4_drift_76 ?_
    refine fr_sipush (pc := 77) O (v := (32767 : Int32)) dX4_drift_77 (by decide) ?_
    refine fr_iand (pc := 80) O dX4_drift_80 ?_
    refine fr_sipush (pc := 81) O (v := (204 : Int32)) dX4_drift_81 (by decide) ?_
    refine fr_irem (pc := 84) O h.1 dX4_drift_84 ?_
    have h := h.2
    refine fr_iconst (pc := 85) O (v := (0 : Int32)) dX4_drift_85 (by decide) ?_
    refine fr_callVV (pc := 86) (st := []) O (tX4_actOn X.2.1 hG  h) mt_X4_actOn mv_X4_actOn m_919 cl_X4 rfl (sM_0 hG) rfl (by decide) rfl (Nat.le_of_ble_eq_true rfl) dX4_drift_86 (fun σ86 h => ?_)
    refine fr_aload_n (pc := 89) O 0 dX4_drift_89 rfl rfl ?_
    refine fr_sipush (pc := 90) O (v := (156 : Int32)) dX4_drift_90 (by decide) ?_
    refine fr_callVV (pc := 93) (st := []) O (tX4_lossesOn X.2.1 hG  h) mt_X4_lossesOn mv_X4_lossesOn m_932 cl_X4 rfl (sM_0 hG) rfl (by decide) rfl (Nat.le_of_ble_eq_true rfl) dX4_drift_93 (fun σ93 h => ?_)
    refine fr_iinc (pc := 96) O 5 [1, 2, 3, 4, 5, 0] (w := (1 : Int32)) (lvF := fun y5_96 => [(0, .ref (gad G 0)), (1, .int a1), (2, .int a2), (3, .int a3), (4, .int y4_66), (5, .int y5_96)]) dX4_drift_96 rfl (by decide) (by decide) (fun _ => rfl) (fun y5_96 e_y5_96 => ?_)
    have h := h y5_96 e_y5_96
    refine fr_goto (pc := 99) (tgt := 51) O dX4_drift_99 (by decide) ?_
    exact hk51 _ _ _ h
set_option maxRecDepth 20000 in
theorem kX4_drift_L51w {X : Cx} {G : Gw} (hG : fw_IsM G) (O : fw_Ok X G cX4_drift 6 RX4 2 52 (some .int)) {a1 : Int32} {a2 : Int32} {a3 : Int32} {post : Int32 → Mem → Prop}   {n9 : Nat} {x4 : Int32} {x5 : Int32} {σ : Mem} (h : it2 (qX4_drift_L51 a1 a2 a3 post) n9 x4 x5 σ) : fw_At X G 6 (fw_QI X G post) 51 [(0, .ref (gad G 0)), (1, .int a1), (2, .int a2), (3, .int a3), (4, .int x4), (5, .int x5)] [] σ :=
  it2_walk (T := fun x4 x5 σ => fw_At X G 6 (fw_QI X G post) 51 [(0, .ref (gad G 0)), (1, .int a1), (2, .int a2), (3, .int a3), (4, .int x4), (5, .int x5)] [] σ) (fun k51 hk51 x4 x5 σ h => kX4_drift_L51 hG O hk51 h) n9 x4 x5 σ h
def qX4_drift (a1 : Int32) (a2 : Int32) (a3 : Int32) (σ : Mem) (post : Int32 → Mem → Prop) : Prop := (qX4_in a2.toInt64 (1 : Int64) (200 : Int64) σ (fun r6 σ6 => ((r6 = 0 → qX4_drift_B22 a1 a2 a3 post σ6) ∧ (¬ r6 = 0 → (qX4_in a3.toInt64 (0 : Int64) (1 : Int64) σ6 (fun r16 σ16 => ((¬ r16 = 0 → (vp_in (16 : Int32) 234 ∧ ((¬ (σ16 1 (16 : Int32).toNatClampNeg) = 0 → (qX4_copies (0 : Int32) (156 : Int32) σ16 (fun σ42 => ∃ n9, it2 (qX4_drift_L51 a1 a2 a3 post) n9 a1 (0 : Int32) σ42))) ∧ ((σ16 1 (16 : Int32).toNatClampNeg) = 0 → post (-2 : Int32) σ16)))) ∧ (r16 = 0 → qX4_drift_B22 a1 a2 a3 post σ16))))))))
set_option maxRecDepth 20000 in
theorem kX4_drift {X : Cx} {G : Gw} (hG : fw_IsM G) (O : fw_Ok X G cX4_drift 6 RX4 2 52 (some .int)) {a1 : Int32} {a2 : Int32} {a3 : Int32}  {σ : Mem} {post : Int32 → Mem → Prop} (h : qX4_drift a1 a2 a3 σ post) : fw_At X G 6 (fw_QI X G post) 0 [(0, .ref (gad G 0)), (1, .int a1), (2, .int a2), (3, .int a3)] [] σ := by
  unfold qX4_drift at h
  refine fr_iload_n (pc := 0) O 2 dX4_drift_0 rfl rfl ?_
  refine fr_i2l (pc := 1) O dX4_drift_1 ?_
  refine fr_lconst (pc := 2) O (v := (1 : Int64)) dX4_drift_2 (by decide) ?_
  refine fr_ldc2 (pc := 3) O m_943 dX4_drift_3 ?_
  refine fr_callSI (pc := 6) (st := []) O (tX4_in X.2.1 hG  h) mt_X4_in m_798 m_797 rfl (by decide) rfl (Nat.le_of_ble_eq_true rfl) dX4_drift_6 (fun r6 σ6 h => ?_)
  refine fr_if_eq (pc := 9) (tgt := 22) O dX4_drift_9 (by decide) (fun c_9 => ?_) (fun c_9 => ?_)
  · have h := h.1 c_9
    exact kX4_drift_B22 hG O  h
  · have h := h.2 c_9
    refine fr_iload_n (pc := 12) O 3 dX4_drift_12 rfl rfl ?_
    refine fr_i2l (pc := 13) O dX4_drift_13 ?_
    refine fr_lconst (pc := 14) O (v := (0 : Int64)) dX4_drift_14 (by decide) ?_
    refine fr_lconst (pc := 15) O (v := (1 : Int64)) dX4_drift_15 (by decide) ?_
    refine fr_callSI (pc := 16) (st := []) O (tX4_in X.2.1 hG  h) mt_X4_in m_798 m_797 rfl (by decide) rfl (Nat.le_of_ble_eq_true rfl) dX4_drift_16 (fun r16 σ16 h => ?_)
    refine fr_if_ne (pc := 19) (tgt := 24) O dX4_drift_19 (by decide) (fun c_19 => ?_) (fun c_19 => ?_)
    · have h := h.1 c_19
      refine fr_aload_n (pc := 24) O 0 dX4_drift_24 rfl rfl ?_
      refine fr_get (pc := 25) (k := 0) (v := .ref (gad G 1)) O cl_X4 m_713 (sM_0 hG) (by decide) rfl rfl dX4_drift_25 ?_
      refine fr_bipush (pc := 28) O (v := (16 : Int32)) dX4_drift_28 (by decide) ?_
      have hi_30 := h.1
      have h := h.2
      refine fr_iald (pc := 30) O (sM_1 hG) hi_30 dX4_drift_30 ?_
      refine fr_if_ne (pc := 31) (tgt := 37) O dX4_drift_31 (by decide) (fun c_31 => ?_) (fun c_31 => ?_)
      · have h := h.1 c_31
        refine fr_aload_n (pc := 37) O 0 dX4_drift_37 rfl rfl ?_
        refine fr_iconst (pc := 38) O (v := (0 : Int32)) dX4_drift_38 (by decide) ?_
        refine fr_sipush (pc := 39) O (v := (156 : Int32)) dX4_drift_39 (by decide) ?_
        refine fr_callVV (pc := 42) (st := []) O (tX4_copies X.2.1 hG  h) mt_X4_copies mv_X4_copies m_949 cl_X4 rfl (sM_0 hG) rfl (by decide) rfl (Nat.le_of_ble_eq_true rfl) dX4_drift_42 (fun σ42 h => ?_)
        refine fr_iload_n (pc := 45) O 1 dX4_drift_45 rfl rfl ?_
        refine fr_istore (pc := 46) O [1, 2, 3, 4, 0] (lv' := [(0, .ref (gad G 0)), (1, .int a1), (2, .int a2), (3, .int a3), (4, .int a1)]) dX4_drift_46 (by decide) rfl ?_
        refine fr_iconst (pc := 48) O (v := (0 : Int32)) dX4_drift_48 (by decide) ?_
        refine fr_istore (pc := 49) O [1, 2, 3, 4, 5, 0] (lv' := [(0, .ref (gad G 0)), (1, .int a1), (2, .int a2), (3, .int a3), (4, .int a1), (5, .int (0 : Int32))]) dX4_drift_49 (by decide) rfl ?_
        obtain ⟨n9, h⟩ := h
        exact kX4_drift_L51w hG O  h
      · have h := h.2 c_31
        refine fr_bipush (pc := 34) O (v := (-2 : Int32)) dX4_drift_34 (by decide) ?_
        exact fr_iret (pc := 36) O dX4_drift_36 h
    · have h := h.2 c_19
      exact kX4_drift_B22 hG O  h
theorem tX4_drift (l : Launch) {G : Gw} (hG : fw_IsM G) {a1 : Int32} {a2 : Int32} {a3 : Int32}  {σ : Mem} {post : Int32 → Mem → Prop} (h : qX4_drift a1 a2 a3 σ post) : fw_CI l G yX4_drift cX4_drift 6 .int 2 52 [.ref (gad G 0), .int a1, .int a2, .int a3] σ post := fw_ofI (sok_M hG) (by decide) (Nat.le_of_ble_eq_true rfl) (fun X O => kX4_drift hG O  h)
def qX4_keep_B37 (a1 : Int32) (post : Int32 → Mem → Prop) (s0 : Int32) (σ : Mem) : Prop := (vp_in a1 2 ∧ (∀ σ44 : Mem, σ44 = up2 σ 8 a1.toNatClampNeg (1 : Int32) → post s0 σ44))
set_option maxRecDepth 20000 in
theorem kX4_keep_B37 {X : Cx} {G : Gw} (hG : fw_IsM G) (O : fw_Ok X G cX4_keep 3 RX4 1 25 (some .int)) {a1 : Int32} {post : Int32 → Mem → Prop}   {s0 : Int32} {σ : Mem} (h : qX4_keep_B37 a1 post s0 σ) : fw_At X G 3 (fw_QI X G post) 37 [(0, .ref (gad G 0)), (1, .int a1)] [.int s0] σ := by
  unfold qX4_keep_B37 at h
  refine fr_istore_n (pc := 37) O [1, 2, 0] (lv' := [(0, .ref (gad G 0)), (1, .int a1), (2, .int s0)]) dX4_keep_37 rfl (by decide) rfl ?_
  refine fr_aload_n (pc := 38) O 0 dX4_keep_38 rfl rfl ?_
  refine fr_get (pc := 39) (k := 21) (v := .ref (gad G 8)) O cl_X4 m_734 (sM_0 hG) (by decide) rfl rfl dX4_keep_39 ?_
  refine fr_iload_n (pc := 42) O 1 dX4_keep_42 rfl rfl ?_
  refine fr_iconst (pc := 43) O (v := (1 : Int32)) dX4_keep_43 (by decide) ?_
  have hi_44 := h.1
  have h := h.2
  refine fr_zast (pc := 44) O (sM_8 hG) hi_44 isB_1 dX4_keep_44 (fun σ44 e_σ44 => ?_)
  have h := h σ44 e_σ44
  refine fr_iload_n (pc := 45) O 2 dX4_keep_45 rfl rfl ?_
  exact fr_iret (pc := 46) O dX4_keep_46 h
def qX4_keep (a1 : Int32) (σ : Mem) (post : Int32 → Mem → Prop) : Prop := (qX4_in a1.toInt64 (0 : Int64) (1 : Int64) σ (fun r4 σ4 => ((¬ r4 = 0 → (qX4_copies (0 : Int32) ((39 : Int32) * (a1 + (1 : Int32))) σ4 (fun σ20 => (vp_in a1 2 ∧ (((σ20 8 a1.toNatClampNeg) = 0 → qX4_keep_B37 a1 post (0 : Int32) σ20) ∧ (¬ (σ20 8 a1.toNatClampNeg) = 0 → qX4_keep_B37 a1 post (1 : Int32) σ20)))))) ∧ (r4 = 0 → post (-1 : Int32) σ4))))
set_option maxRecDepth 20000 in
theorem kX4_keep {X : Cx} {G : Gw} (hG : fw_IsM G) (O : fw_Ok X G cX4_keep 3 RX4 1 25 (some .int)) {a1 : Int32}  {σ : Mem} {post : Int32 → Mem → Prop} (h : qX4_keep a1 σ post) : fw_At X G 3 (fw_QI X G post) 0 [(0, .ref (gad G 0)), (1, .int a1)] [] σ := by
  unfold qX4_keep at h
  refine fr_iload_n (pc := 0) O 1 dX4_keep_0 rfl rfl ?_
  refine fr_i2l (pc := 1) O dX4_keep_1 ?_
  refine fr_lconst (pc := 2) O (v := (0 : Int64)) dX4_keep_2 (by decide) ?_
  refine fr_lconst (pc := 3) O (v := (1 : Int64)) dX4_keep_3 (by decide) ?_
  refine fr_callSI (pc := 4) (st := []) O (tX4_in X.2.1 hG  h) mt_X4_in m_798 m_797 rfl (by decide) rfl (Nat.le_of_ble_eq_true rfl) dX4_keep_4 (fun r4 σ4 h => ?_)
  refine fr_if_ne (pc := 7) (tgt := 12) O dX4_keep_7 (by decide) (fun c_7 => ?_) (fun c_7 => ?_)
  · have h := h.1 c_7
    refine fr_aload_n (pc := 12) O 0 dX4_keep_12 rfl rfl ?_
    refine fr_iconst (pc := 13) O (v := (0 : Int32)) dX4_keep_13 (by decide) ?_
    refine fr_bipush (pc := 14) O (v := (39 : Int32)) dX4_keep_14 (by decide) ?_
    refine fr_iload_n (pc := 16) O 1 dX4_keep_16 rfl rfl ?_
    refine fr_iconst (pc := 17) O (v := (1 : Int32)) dX4_keep_17 (by decide) ?_
    refine fr_iadd (pc := 18) O dX4_keep_18 ?_
    refine fr_imul (pc := 19) O dX4_keep_19 ?_
    refine fr_callVV (pc := 20) (st := []) O (tX4_copies X.2.1 hG  h) mt_X4_copies mv_X4_copies m_949 cl_X4 rfl (sM_0 hG) rfl (by decide) rfl (Nat.le_of_ble_eq_true rfl) dX4_keep_20 (fun σ20 h => ?_)
    refine fr_aload_n (pc := 23) O 0 dX4_keep_23 rfl rfl ?_
    refine fr_get (pc := 24) (k := 21) (v := .ref (gad G 8)) O cl_X4 m_734 (sM_0 hG) (by decide) rfl rfl dX4_keep_24 ?_
    refine fr_iload_n (pc := 27) O 1 dX4_keep_27 rfl rfl ?_
    have hi_28 := h.1
    have h := h.2
    refine fr_zald (pc := 28) O (sM_8 hG) hi_28 dX4_keep_28 ?_
    refine fr_if_eq (pc := 29) (tgt := 36) O dX4_keep_29 (by decide) (fun c_29 => ?_) (fun c_29 => ?_)
    · have h := h.1 c_29
      refine fr_iconst (pc := 36) O (v := (0 : Int32)) dX4_keep_36 (by decide) ?_
      exact kX4_keep_B37 hG O  h
    · have h := h.2 c_29
      refine fr_iconst (pc := 32) O (v := (1 : Int32)) dX4_keep_32 (by decide) ?_
      refine fr_goto (pc := 33) (tgt := 37) O dX4_keep_33 (by decide) ?_
      exact kX4_keep_B37 hG O  h
  · have h := h.2 c_7
    refine fr_iconst (pc := 10) O (v := (-1 : Int32)) dX4_keep_10 (by decide) ?_
    exact fr_iret (pc := 11) O dX4_keep_11 h
theorem tX4_keep (l : Launch) {G : Gw} (hG : fw_IsM G) {a1 : Int32}  {σ : Mem} {post : Int32 → Mem → Prop} (h : qX4_keep a1 σ post) : fw_CI l G yX4_keep cX4_keep 3 .int 1 25 [.ref (gad G 0), .int a1] σ post := fw_ofI (sok_M hG) (by decide) (Nat.le_of_ble_eq_true rfl) (fun X O => kX4_keep hG O  h)
def qX4_back (a1 : Int32) (σ : Mem) (post : Int32 → Mem → Prop) : Prop := (qX4_in a1.toInt64 (0 : Int64) (1 : Int64) σ (fun r4 σ4 => ((¬ r4 = 0 → (vp_in a1 2 ∧ ((¬ (σ4 8 a1.toNatClampNeg) = 0 → (qX4_copies ((39 : Int32) * (a1 + (1 : Int32))) (0 : Int32) σ4 (fun σ32 => (vp_in (36 : Int32) 234 ∧ post (σ32 1 (36 : Int32).toNatClampNeg) σ32)))) ∧ ((σ4 8 a1.toNatClampNeg) = 0 → post (-2 : Int32) σ4)))) ∧ (r4 = 0 → post (-1 : Int32) σ4))))
set_option maxRecDepth 20000 in
theorem kX4_back {X : Cx} {G : Gw} (hG : fw_IsM G) (O : fw_Ok X G cX4_back 2 RX4 1 25 (some .int)) {a1 : Int32}  {σ : Mem} {post : Int32 → Mem → Prop} (h : qX4_back a1 σ post) : fw_At X G 2 (fw_QI X G post) 0 [(0, .ref (gad G 0)), (1, .int a1)] [] σ := by
  unfold qX4_back at h
  refine fr_iload_n (pc := 0) O 1 dX4_back_0 rfl rfl ?_
  refine fr_i2l (pc := 1) O dX4_back_1 ?_
  refine fr_lconst (pc := 2) O (v := (0 : Int64)) dX4_back_2 (by decide) ?_
  refine fr_lconst (pc := 3) O (v := (1 : Int64)) dX4_back_3 (by decide) ?_
  refine fr_callSI (pc := 4) (st := []) O (tX4_in X.2.1 hG  h) mt_X4_in m_798 m_797 rfl (by decide) rfl (Nat.le_of_ble_eq_true rfl) dX4_back_4 (fun r4 σ4 h => ?_)
  refine fr_if_ne (pc := 7) (tgt := 12) O dX4_back_7 (by decide) (fun c_7 => ?_) (fun c_7 => ?_)
  · have h := h.1 c_7
    refine fr_aload_n (pc := 12) O 0 dX4_back_12 rfl rfl ?_
    refine fr_get (pc := 13) (k := 21) (v := .ref (gad G 8)) O cl_X4 m_734 (sM_0 hG) (by decide) rfl rfl dX4_back_13 ?_
    refine fr_iload_n (pc := 16) O 1 dX4_back_16 rfl rfl ?_
    have hi_17 := h.1
    have h := h.2
    refine fr_zald (pc := 17) O (sM_8 hG) hi_17 dX4_back_17 ?_
    refine fr_if_ne (pc := 18) (tgt := 24) O dX4_back_18 (by decide) (fun c_18 => ?_) (fun c_18 => ?_)
    · have h := h.1 c_18
      refine fr_aload_n (pc := 24) O 0 dX4_back_24 rfl rfl ?_
      refine fr_bipush (pc := 25) O (v := (39 : Int32)) dX4_back_25 (by decide) ?_
      refine fr_iload_n (pc := 27) O 1 dX4_back_27 rfl rfl ?_
      refine fr_iconst (pc := 28) O (v := (1 : Int32)) dX4_back_28 (by decide) ?_
      refine fr_iadd (pc := 29) O dX4_back_29 ?_
      refine fr_imul (pc := 30) O dX4_back_30 ?_
      refine fr_iconst (pc := 31) O (v := (0 : Int32)) dX4_back_31 (by decide) ?_
      refine fr_callVV (pc := 32) (st := []) O (tX4_copies X.2.1 hG  h) mt_X4_copies mv_X4_copies m_949 cl_X4 rfl (sM_0 hG) rfl (by decide) rfl (Nat.le_of_ble_eq_true rfl) dX4_back_32 (fun σ32 h => ?_)
      refine fr_aload_n (pc := 35) O 0 dX4_back_35 rfl rfl ?_
      refine fr_get (pc := 36) (k := 0) (v := .ref (gad G 1)) O cl_X4 m_713 (sM_0 hG) (by decide) rfl rfl dX4_back_36 ?_
      refine fr_bipush (pc := 39) O (v := (36 : Int32)) dX4_back_39 (by decide) ?_
      have hi_41 := h.1
      have h := h.2
      refine fr_iald (pc := 41) O (sM_1 hG) hi_41 dX4_back_41 ?_
      exact fr_iret (pc := 42) O dX4_back_42 h
    · have h := h.2 c_18
      refine fr_bipush (pc := 21) O (v := (-2 : Int32)) dX4_back_21 (by decide) ?_
      exact fr_iret (pc := 23) O dX4_back_23 h
  · have h := h.2 c_7
    refine fr_iconst (pc := 10) O (v := (-1 : Int32)) dX4_back_10 (by decide) ?_
    exact fr_iret (pc := 11) O dX4_back_11 h
theorem tX4_back (l : Launch) {G : Gw} (hG : fw_IsM G) {a1 : Int32}  {σ : Mem} {post : Int32 → Mem → Prop} (h : qX4_back a1 σ post) : fw_CI l G yX4_back cX4_back 2 .int 1 25 [.ref (gad G 0), .int a1] σ post := fw_ofI (sok_M hG) (by decide) (Nat.le_of_ble_eq_true rfl) (fun X O => kX4_back hG O  h)
def qX4_sheet_B30 (a1 : Int32) (a2 : Int32) (a3 : Int32) (post : Int32 → Mem → Prop) (σ : Mem) : Prop := post (-1 : Int32) σ
set_option maxRecDepth 20000 in
theorem kX4_sheet_B30 {X : Cx} {G : Gw} (hG : fw_IsM G) (O : fw_Ok X G cX4_sheet 5 RX4 1 25 (some .int)) {a1 : Int32} {a2 : Int32} {a3 : Int32} {post : Int32 → Mem → Prop}    {σ : Mem} (h : qX4_sheet_B30 a1 a2 a3 post σ) : fw_At X G 5 (fw_QI X G post) 30 [(0, .ref (gad G 0)), (1, .int a1), (2, .int a2), (3, .int a3)] [] σ := by
  unfold qX4_sheet_B30 at h
  refine fr_iconst (pc := 30) O (v := (-1 : Int32)) dX4_sheet_30 (by decide) ?_
  exact fr_iret (pc := 31) O dX4_sheet_31 h
def qX4_sheet_L56 (a1 : Int32) (a2 : Int32) (a3 : Int32) (post : Int32 → Mem → Prop) (k56 : Int32 → Mem → Prop) (x4 : Int32) (σ : Mem) : Prop := (((40 : Int32) ≤ x4 → post (1 : Int32) σ) ∧ (¬ (40 : Int32) ≤ x4 → (vp_in (((40 : Int32) * a1) + x4) 160 ∧ (∀ σ75 : Mem, σ75 = up2 σ 11 (((40 : Int32) * a1) + x4).toNatClampNeg (0 : Int32) → (∀ y4_76 : Int32, y4_76 = x4 + (1 : Int32) → k56 y4_76 σ75)))))
set_option maxRecDepth 20000 in
theorem kX4_sheet_L56 {X : Cx} {G : Gw} (hG : fw_IsM G) (O : fw_Ok X G cX4_sheet 5 RX4 1 25 (some .int)) {a1 : Int32} {a2 : Int32} {a3 : Int32} {post : Int32 → Mem → Prop} {k56 : Int32 → Mem → Prop}  (hk56 : ∀ (x4 : Int32) (σ : Mem), k56 x4 σ → fw_At X G 5 (fw_QI X G post) 56 [(0, .ref (gad G 0)), (1, .int a1), (2, .int a2), (3, .int a3), (4, .int x4)] [] σ) {x4 : Int32} {σ : Mem} (h : qX4_sheet_L56 a1 a2 a3 post k56 x4 σ) : fw_At X G 5 (fw_QI X G post) 56 [(0, .ref (gad G 0)), (1, .int a1), (2, .int a2), (3, .int a3), (4, .int x4)] [] σ := by
  unfold qX4_sheet_L56 at h
  refine fr_iload (pc := 56) O 4 dX4_sheet_56 rfl ?_
  refine fr_bipush (pc := 58) O (v := (40 : Int32)) dX4_sheet_58 (by decide) ?_
  refine fr_icmp_ge (pc := 60) (tgt := 82) O dX4_sheet_60 (by decide) (fun c_60 => ?_) (fun c_60 => ?_)
  · have h := h.1 c_60
    refine fr_iconst (pc := 82) O (v := (1 : Int32)) dX4_sheet_82 (by decide) ?_
    exact fr_iret (pc := 83) O dX4_sheet_83 h
  · have h := h.2 c_60
    refine fr_aload_n (pc := 63) O 0 dX4_sheet_63 rfl rfl ?_
    refine fr_get (pc := 64) (k := 24) (v := .ref (gad G 11)) O cl_X4 m_737 (sM_0 hG) (by decide) rfl rfl dX4_sheet_64 ?_
    refine fr_bipush (pc := 67) O (v := (40 : Int32)) dX4_sheet_67 (by decide) ?_
    refine fr_iload_n (pc := 69) O 1 dX4_sheet_69 rfl rfl ?_
    refine fr_imul (pc := 70) O dX4_sheet_70 ?_
    refine fr_iload (pc := 71) O 4 dX4_sheet_71 rfl ?_
    refine fr_iadd (pc := 73) O dX4_sheet_73 ?_
    refine fr_iconst (pc := 74) O (v := (0 : Int32)) dX4_sheet_74 (by decide) ?_
    have hi_75 := h.1
    have h := h.2
    refine fr_iast (pc := 75) O (sM_11 hG) hi_75 dX4_sheet_75 (fun σ75 e_σ75 => ?_)
    have h := h σ75 e_σ75
    refine fr_iinc (pc := 76) O 4 [1, 2, 3, 4, 0] (w := (1 : Int32)) (lvF := fun y4_76 => [(0, .ref (gad G 0)), (1, .int a1), (2, .int a2), (3, .int a3), (4, .int y4_76)]) dX4_sheet_76 rfl (by decide) (by decide) (fun _ => rfl) (fun y4_76 e_y4_76 => ?_)
    have h := h y4_76 e_y4_76
    refine fr_goto (pc := 79) (tgt := 56) O dX4_sheet_79 (by decide) ?_
    exact hk56 _ _ h
set_option maxRecDepth 20000 in
theorem kX4_sheet_L56w {X : Cx} {G : Gw} (hG : fw_IsM G) (O : fw_Ok X G cX4_sheet 5 RX4 1 25 (some .int)) {a1 : Int32} {a2 : Int32} {a3 : Int32} {post : Int32 → Mem → Prop}   {n9 : Nat} {x4 : Int32} {σ : Mem} (h : it1 (qX4_sheet_L56 a1 a2 a3 post) n9 x4 σ) : fw_At X G 5 (fw_QI X G post) 56 [(0, .ref (gad G 0)), (1, .int a1), (2, .int a2), (3, .int a3), (4, .int x4)] [] σ :=
  it1_walk (T := fun x4 σ => fw_At X G 5 (fw_QI X G post) 56 [(0, .ref (gad G 0)), (1, .int a1), (2, .int a2), (3, .int a3), (4, .int x4)] [] σ) (fun k56 hk56 x4 σ h => kX4_sheet_L56 hG O hk56 h) n9 x4 σ h
def qX4_sheet (a1 : Int32) (a2 : Int32) (a3 : Int32) (σ : Mem) (post : Int32 → Mem → Prop) : Prop := (qX4_in a1.toInt64 (0 : Int64) (3 : Int64) σ (fun r6 σ6 => ((r6 = 0 → qX4_sheet_B30 a1 a2 a3 post σ6) ∧ (¬ r6 = 0 → (qX4_in a2.toInt64 (0 : Int64) (2 : Int64) σ6 (fun r18 σ18 => ((r18 = 0 → qX4_sheet_B30 a1 a2 a3 post σ18) ∧ (¬ r18 = 0 → ((a3 ≤ (40 : Int32) → ((0 ≤ a3 → (vp_in a1 4 ∧ (∀ σ45 : Mem, σ45 = up2 σ18 9 a1.toNatClampNeg a2 → (∀ σ52 : Mem, σ52 = up2 σ45 10 a1.toNatClampNeg a3 → ∃ n9, it1 (qX4_sheet_L56 a1 a2 a3 post) n9 (0 : Int32) σ52)))) ∧ (¬ 0 ≤ a3 → post (-14 : Int32) σ18))) ∧ (¬ a3 ≤ (40 : Int32) → qX4_sheet_B30 a1 a2 a3 post σ18))))))))))
set_option maxRecDepth 20000 in
theorem kX4_sheet {X : Cx} {G : Gw} (hG : fw_IsM G) (O : fw_Ok X G cX4_sheet 5 RX4 1 25 (some .int)) {a1 : Int32} {a2 : Int32} {a3 : Int32}  {σ : Mem} {post : Int32 → Mem → Prop} (h : qX4_sheet a1 a2 a3 σ post) : fw_At X G 5 (fw_QI X G post) 0 [(0, .ref (gad G 0)), (1, .int a1), (2, .int a2), (3, .int a3)] [] σ := by
  unfold qX4_sheet at h
  refine fr_iload_n (pc := 0) O 1 dX4_sheet_0 rfl rfl ?_
  refine fr_i2l (pc := 1) O dX4_sheet_1 ?_
  refine fr_lconst (pc := 2) O (v := (0 : Int64)) dX4_sheet_2 (by decide) ?_
  refine fr_ldc2 (pc := 3) O m_878 dX4_sheet_3 ?_
  refine fr_callSI (pc := 6) (st := []) O (tX4_in X.2.1 hG  h) mt_X4_in m_798 m_797 rfl (by decide) rfl (Nat.le_of_ble_eq_true rfl) dX4_sheet_6 (fun r6 σ6 h => ?_)
  refine fr_if_eq (pc := 9) (tgt := 30) O dX4_sheet_9 (by decide) (fun c_9 => ?_) (fun c_9 => ?_)
  · have h := h.1 c_9
    exact kX4_sheet_B30 hG O  h
  · have h := h.2 c_9
    refine fr_iload_n (pc := 12) O 2 dX4_sheet_12 rfl rfl ?_
    refine fr_i2l (pc := 13) O dX4_sheet_13 ?_
    refine fr_lconst (pc := 14) O (v := (0 : Int64)) dX4_sheet_14 (by decide) ?_
    refine fr_ldc2 (pc := 15) O m_1070 dX4_sheet_15 ?_
    refine fr_callSI (pc := 18) (st := []) O (tX4_in X.2.1 hG  h) mt_X4_in m_798 m_797 rfl (by decide) rfl (Nat.le_of_ble_eq_true rfl) dX4_sheet_18 (fun r18 σ18 h => ?_)
    refine fr_if_eq (pc := 21) (tgt := 30) O dX4_sheet_21 (by decide) (fun c_21 => ?_) (fun c_21 => ?_)
    · have h := h.1 c_21
      exact kX4_sheet_B30 hG O  h
    · have h := h.2 c_21
      refine fr_iload_n (pc := 24) O 3 dX4_sheet_24 rfl rfl ?_
      refine fr_bipush (pc := 25) O (v := (40 : Int32)) dX4_sheet_25 (by decide) ?_
      refine fr_icmp_le (pc := 27) (tgt := 32) O dX4_sheet_27 (by decide) (fun c_27 => ?_) (fun c_27 => ?_)
      · have h := h.1 c_27
        refine fr_iload_n (pc := 32) O 3 dX4_sheet_32 rfl rfl ?_
        refine fr_if_ge (pc := 33) (tgt := 39) O dX4_sheet_33 (by decide) (fun c_33 => ?_) (fun c_33 => ?_)
        · have h := h.1 c_33
          refine fr_aload_n (pc := 39) O 0 dX4_sheet_39 rfl rfl ?_
          refine fr_get (pc := 40) (k := 22) (v := .ref (gad G 9)) O cl_X4 m_735 (sM_0 hG) (by decide) rfl rfl dX4_sheet_40 ?_
          refine fr_iload_n (pc := 43) O 1 dX4_sheet_43 rfl rfl ?_
          refine fr_iload_n (pc := 44) O 2 dX4_sheet_44 rfl rfl ?_
          have hi_45 := h.1
          have h := h.2
          refine fr_iast (pc := 45) O (sM_9 hG) hi_45 dX4_sheet_45 (fun σ45 e_σ45 => ?_)
          have h := h σ45 e_σ45
          refine fr_aload_n (pc := 46) O 0 dX4_sheet_46 rfl rfl ?_
          refine fr_get (pc := 47) (k := 23) (v := .ref (gad G 10)) O cl_X4 m_736 (sM_0 hG) (by decide) rfl rfl dX4_sheet_47 ?_
          refine fr_iload_n (pc := 50) O 1 dX4_sheet_50 rfl rfl ?_
          refine fr_iload_n (pc := 51) O 3 dX4_sheet_51 rfl rfl ?_
          refine fr_iast (pc := 52) O (sM_10 hG) hi_45 dX4_sheet_52 (fun σ52 e_σ52 => ?_)
          have h := h σ52 e_σ52
          refine fr_iconst (pc := 53) O (v := (0 : Int32)) dX4_sheet_53 (by decide) ?_
          refine fr_istore (pc := 54) O [1, 2, 3, 4, 0] (lv' := [(0, .ref (gad G 0)), (1, .int a1), (2, .int a2), (3, .int a3), (4, .int (0 : Int32))]) dX4_sheet_54 (by decide) rfl ?_
          obtain ⟨n9, h⟩ := h
          exact kX4_sheet_L56w hG O  h
        · have h := h.2 c_33
          refine fr_bipush (pc := 36) O (v := (-14 : Int32)) dX4_sheet_36 (by decide) ?_
          exact fr_iret (pc := 38) O dX4_sheet_38 h
      · have h := h.2 c_27
        exact kX4_sheet_B30 hG O  h
theorem tX4_sheet (l : Launch) {G : Gw} (hG : fw_IsM G) {a1 : Int32} {a2 : Int32} {a3 : Int32}  {σ : Mem} {post : Int32 → Mem → Prop} (h : qX4_sheet a1 a2 a3 σ post) : fw_CI l G yX4_sheet cX4_sheet 5 .int 1 25 [.ref (gad G 0), .int a1, .int a2, .int a3] σ post := fw_ofI (sok_M hG) (by decide) (Nat.le_of_ble_eq_true rfl) (fun X O => kX4_sheet hG O  h)
def qX4_lay_B99 (a1 : Int32) (a2 : Int32) (a3 : Int32) (post : Int32 → Mem → Prop) (s1 : Int32) (s2 : Int32) (σ : Mem) : Prop := (vp_in s1 160 ∧ (∀ σ99 : Mem, σ99 = up2 σ 11 s1.toNatClampNeg s2 → post (1 : Int32) σ99))
set_option maxRecDepth 20000 in
theorem kX4_lay_B99 {X : Cx} {G : Gw} (hG : fw_IsM G) (O : fw_Ok X G cX4_lay 4 RX4 1 25 (some .int)) {a1 : Int32} {a2 : Int32} {a3 : Int32} {post : Int32 → Mem → Prop}   {s1 : Int32} {s2 : Int32} {σ : Mem} (h : qX4_lay_B99 a1 a2 a3 post s1 s2 σ) : fw_At X G 4 (fw_QI X G post) 99 [(0, .ref (gad G 0)), (1, .int a1), (2, .int a2), (3, .int a3)] [.int s2, .int s1, .ref (gad G 11)] σ := by
  unfold qX4_lay_B99 at h
  have hi_99 := h.1
  have h := h.2
  refine fr_iast (pc := 99) O (sM_11 hG) hi_99 dX4_lay_99 (fun σ99 e_σ99 => ?_)
  have h := h σ99 e_σ99
  refine fr_iconst (pc := 100) O (v := (1 : Int32)) dX4_lay_100 (by decide) ?_
  exact fr_iret (pc := 101) O dX4_lay_101 h
def qX4_lay (a1 : Int32) (a2 : Int32) (a3 : Int32) (σ : Mem) (post : Int32 → Mem → Prop) : Prop := (qX4_in a1.toInt64 (0 : Int64) (3 : Int64) σ (fun r6 σ6 => ((¬ r6 = 0 → (vp_in a1 4 ∧ ((¬ (σ6 9 a1.toNatClampNeg) = (-4 : Int32) → (qX4_in a2.toInt64 (0 : Int64) (((σ6 10 a1.toNatClampNeg) - (1 : Int32)).toInt64) σ6 (fun r40 σ40 => ((¬ r40 = 0 → ((¬ (σ40 9 a1.toNatClampNeg) = 0 → ((¬ (σ40 9 a1.toNatClampNeg) = (1 : Int32) → qX4_lay_B99 a1 a2 a3 post (((40 : Int32) * a1) + a2) a3 σ40) ∧ ((σ40 9 a1.toNatClampNeg) = (1 : Int32) → qX4_lay_B99 a1 a2 a3 post (((40 : Int32) * a1) + a2) ((a3 <<< ((16 : Int32) &&& 31)) >>> ((16 : Int32) &&& 31)) σ40))) ∧ ((σ40 9 a1.toNatClampNeg) = 0 → qX4_lay_B99 a1 a2 a3 post (((40 : Int32) * a1) + a2) ((a3 <<< ((24 : Int32) &&& 31)) >>> ((24 : Int32) &&& 31)) σ40))) ∧ (r40 = 0 → post (-12 : Int32) σ40))))) ∧ ((σ6 9 a1.toNatClampNeg) = (-4 : Int32) → post (-11 : Int32) σ6)))) ∧ (r6 = 0 → post (-1 : Int32) σ6))))
set_option maxRecDepth 20000 in
theorem kX4_lay {X : Cx} {G : Gw} (hG : fw_IsM G) (O : fw_Ok X G cX4_lay 4 RX4 1 25 (some .int)) {a1 : Int32} {a2 : Int32} {a3 : Int32}  {σ : Mem} {post : Int32 → Mem → Prop} (h : qX4_lay a1 a2 a3 σ post) : fw_At X G 4 (fw_QI X G post) 0 [(0, .ref (gad G 0)), (1, .int a1), (2, .int a2), (3, .int a3)] [] σ := by
  unfold qX4_lay at h
  refine fr_iload_n (pc := 0) O 1 dX4_lay_0 rfl rfl ?_
  refine fr_i2l (pc := 1) O dX4_lay_1 ?_
  refine fr_lconst (pc := 2) O (v := (0 : Int64)) dX4_lay_2 (by decide) ?_
  refine fr_ldc2 (pc := 3) O m_878 dX4_lay_3 ?_
  refine fr_callSI (pc := 6) (st := []) O (tX4_in X.2.1 hG  h) mt_X4_in m_798 m_797 rfl (by decide) rfl (Nat.le_of_ble_eq_true rfl) dX4_lay_6 (fun r6 σ6 h => ?_)
  refine fr_if_ne (pc := 9) (tgt := 14) O dX4_lay_9 (by decide) (fun c_9 => ?_) (fun c_9 => ?_)
  · have h := h.1 c_9
    refine fr_aload_n (pc := 14) O 0 dX4_lay_14 rfl rfl ?_
    refine fr_get (pc := 15) (k := 22) (v := .ref (gad G 9)) O cl_X4 m_735 (sM_0 hG) (by decide) rfl rfl dX4_lay_15 ?_
    refine fr_iload_n (pc := 18) O 1 dX4_lay_18 rfl rfl ?_
    have hi_19 := h.1
    have h := h.2
    refine fr_iald (pc := 19) O (sM_9 hG) hi_19 dX4_lay_19 ?_
    refine fr_bipush (pc := 20) O (v := (-4 : Int32)) dX4_lay_20 (by decide) ?_
    refine fr_icmp_ne (pc := 22) (tgt := 28) O dX4_lay_22 (by decide) (fun c_22 => ?_) (fun c_22 => ?_)
    · have h := h.1 c_22
      refine fr_iload_n (pc := 28) O 2 dX4_lay_28 rfl rfl ?_
      refine fr_i2l (pc := 29) O dX4_lay_29 ?_
      refine fr_lconst (pc := 30) O (v := (0 : Int64)) dX4_lay_30 (by decide) ?_
      refine fr_aload_n (pc := 31) O 0 dX4_lay_31 rfl rfl ?_
      refine fr_get (pc := 32) (k := 23) (v := .ref (gad G 10)) O cl_X4 m_736 (sM_0 hG) (by decide) rfl rfl dX4_lay_32 ?_
      refine fr_iload_n (pc := 35) O 1 dX4_lay_35 rfl rfl ?_
      refine fr_iald (pc := 36) O (sM_10 hG) hi_19 dX4_lay_36 ?_
      refine fr_iconst (pc := 37) O (v := (1 : Int32)) dX4_lay_37 (by decide) ?_
      refine fr_isub (pc := 38) O dX4_lay_38 ?_
      refine fr_i2l (pc := 39) O dX4_lay_39 ?_
      refine fr_callSI (pc := 40) (st := []) O (tX4_in X.2.1 hG  h) mt_X4_in m_798 m_797 rfl (by decide) rfl (Nat.le_of_ble_eq_true rfl) dX4_lay_40 (fun r40 σ40 h => ?_)
      refine fr_if_ne (pc := 43) (tgt := 49) O dX4_lay_43 (by decide) (fun c_43 => ?_) (fun c_43 => ?_)
      · have h := h.1 c_43
        refine fr_aload_n (pc := 49) O 0 dX4_lay_49 rfl rfl ?_
        refine fr_get (pc := 50) (k := 24) (v := .ref (gad G 11)) O cl_X4 m_737 (sM_0 hG) (by decide) rfl rfl dX4_lay_50 ?_
        refine fr_bipush (pc := 53) O (v := (40 : Int32)) dX4_lay_53 (by decide) ?_
        refine fr_iload_n (pc := 55) O 1 dX4_lay_55 rfl rfl ?_
        refine fr_imul (pc := 56) O dX4_lay_56 ?_
        refine fr_iload_n (pc := 57) O 2 dX4_lay_57 rfl rfl ?_
        refine fr_iadd (pc := 58) O dX4_lay_58 ?_
        refine fr_aload_n (pc := 59) O 0 dX4_lay_59 rfl rfl ?_
        refine fr_get (pc := 60) (k := 22) (v := .ref (gad G 9)) O cl_X4 m_735 (sM_0 hG) (by decide) rfl rfl dX4_lay_60 ?_
        refine fr_iload_n (pc := 63) O 1 dX4_lay_63 rfl rfl ?_
        refine fr_iald (pc := 64) O (sM_9 hG) hi_19 dX4_lay_64 ?_
        refine fr_if_ne (pc := 65) (tgt := 78) O dX4_lay_65 (by decide) (fun c_65 => ?_) (fun c_65 => ?_)
        · have h := h.1 c_65
          refine fr_aload_n (pc := 78) O 0 dX4_lay_78 rfl rfl ?_
          refine fr_get (pc := 79) (k := 22) (v := .ref (gad G 9)) O cl_X4 m_735 (sM_0 hG) (by decide) rfl rfl dX4_lay_79 ?_
          refine fr_iload_n (pc := 82) O 1 dX4_lay_82 rfl rfl ?_
          refine fr_iald (pc := 83) O (sM_9 hG) hi_19 dX4_lay_83 ?_
          refine fr_iconst (pc := 84) O (v := (1 : Int32)) dX4_lay_84 (by decide) ?_
          refine fr_icmp_ne (pc := 85) (tgt := 98) O dX4_lay_85 (by decide) (fun c_85 => ?_) (fun c_85 => ?_)
          · have h := h.1 c_85
            refine fr_iload_n (pc := 98) O 3 dX4_lay_98 rfl rfl ?_
            exact kX4_lay_B99 hG O  h
          · have h := h.2 c_85
            refine fr_iload_n (pc := 88) O 3 dX4_lay_88 rfl rfl ?_
            refine fr_bipush (pc := 89) O (v := (16 : Int32)) dX4_lay_89 (by decide) ?_
            refine fr_ishl (pc := 91) O dX4_lay_91 ?_
            refine fr_bipush (pc := 92) O (v := (16 : Int32)) dX4_lay_92 (by decide) ?_
            refine fr_ishr (pc := 94) O dX4_lay_94 ?_
            refine fr_goto (pc := 95) (tgt := 99) O dX4_lay_95 (by decide) ?_
            exact kX4_lay_B99 hG O  h
        · have h := h.2 c_65
          refine fr_iload_n (pc := 68) O 3 dX4_lay_68 rfl rfl ?_
          refine fr_bipush (pc := 69) O (v := (24 : Int32)) dX4_lay_69 (by decide) ?_
          refine fr_ishl (pc := 71) O dX4_lay_71 ?_
          refine fr_bipush (pc := 72) O (v := (24 : Int32)) dX4_lay_72 (by decide) ?_
          refine fr_ishr (pc := 74) O dX4_lay_74 ?_
          refine fr_goto (pc := 75) (tgt := 99) O dX4_lay_75 (by decide) ?_
          exact kX4_lay_B99 hG O  h
      · have h := h.2 c_43
        refine fr_bipush (pc := 46) O (v := (-12 : Int32)) dX4_lay_46 (by decide) ?_
        exact fr_iret (pc := 48) O dX4_lay_48 h
    · have h := h.2 c_22
      refine fr_bipush (pc := 25) O (v := (-11 : Int32)) dX4_lay_25 (by decide) ?_
      exact fr_iret (pc := 27) O dX4_lay_27 h
  · have h := h.2 c_9
    refine fr_iconst (pc := 12) O (v := (-1 : Int32)) dX4_lay_12 (by decide) ?_
    exact fr_iret (pc := 13) O dX4_lay_13 h
theorem tX4_lay (l : Launch) {G : Gw} (hG : fw_IsM G) {a1 : Int32} {a2 : Int32} {a3 : Int32}  {σ : Mem} {post : Int32 → Mem → Prop} (h : qX4_lay a1 a2 a3 σ post) : fw_CI l G yX4_lay cX4_lay 4 .int 1 25 [.ref (gad G 0), .int a1, .int a2, .int a3] σ post := fw_ofI (sok_M hG) (by decide) (Nat.le_of_ble_eq_true rfl) (fun X O => kX4_lay hG O  h)
def qX4_read_B37 (a1 : Int32) (a2 : Int32) (a3 : Int32) (a4 : Int32) (post : Int32 → Mem → Prop) (σ : Mem) : Prop := post (-1 : Int32) σ
set_option maxRecDepth 20000 in
theorem kX4_read_B37 {X : Cx} {G : Gw} (hG : fw_IsM G) (O : fw_Ok X G cX4_read 9 RX4 2 46 (some .int)) {a1 : Int32} {a2 : Int32} {a3 : Int32} {a4 : Int32} {post : Int32 → Mem → Prop}    {σ : Mem} (h : qX4_read_B37 a1 a2 a3 a4 post σ) : fw_At X G 9 (fw_QI X G post) 37 [(0, .ref (gad G 0)), (1, .int a1), (2, .int a2), (3, .int a3), (4, .int a4)] [] σ := by
  unfold qX4_read_B37 at h
  refine fr_iconst (pc := 37) O (v := (-1 : Int32)) dX4_read_37 (by decide) ?_
  exact fr_iret (pc := 38) O dX4_read_38 h
def qX4_read_B177 (a1 : Int32) (a2 : Int32) (a3 : Int32) (a4 : Int32) (post : Int32 → Mem → Prop) (x5 : Int32) (x6 : Int32) (σ : Mem) : Prop := (∀ σ180 : Mem, σ180 = up2 σ 0 25 x5 → post x6 σ180)
set_option maxRecDepth 20000 in
theorem kX4_read_B177 {X : Cx} {G : Gw} (hG : fw_IsM G) (O : fw_Ok X G cX4_read 9 RX4 2 46 (some .int)) {a1 : Int32} {a2 : Int32} {a3 : Int32} {a4 : Int32} {post : Int32 → Mem → Prop}   {x5 : Int32} {x6 : Int32} {σ : Mem} (h : qX4_read_B177 a1 a2 a3 a4 post x5 x6 σ) : fw_At X G 9 (fw_QI X G post) 177 [(0, .ref (gad G 0)), (1, .int a1), (2, .int a2), (3, .int a3), (4, .int a4), (5, .int x5), (6, .int x6)] [] σ := by
  unfold qX4_read_B177 at h
  refine fr_aload_n (pc := 177) O 0 dX4_read_177 rfl rfl ?_
  refine fr_iload (pc := 178) O 5 dX4_read_178 rfl ?_
  refine fr_put (pc := 180) (k := 25) O cl_X4 m_738 (sM_0 hG) (by decide) rfl rfl rfl rfl (fun _ => Nat.le_of_ble_eq_true rfl) (fun _ => rfl) dX4_read_180 (fun σ180 e_σ180 => ?_)
  have h := h σ180 e_σ180
  refine fr_iload (pc := 183) O 6 dX4_read_183 rfl ?_
  exact fr_iret (pc := 185) O dX4_read_185 h
def qX4_read_B171 (a1 : Int32) (a2 : Int32) (a3 : Int32) (a4 : Int32) (post : Int32 → Mem → Prop) (k55 : Int32 → Int32 → Int32 → Mem → Prop) (x5 : Int32) (x6 : Int32) (x7 : Int32) (σ : Mem) : Prop := (∀ y7_171 : Int32, y7_171 = x7 + (1 : Int32) → k55 x5 x6 y7_171 σ)
set_option maxRecDepth 20000 in
theorem kX4_read_B171 {X : Cx} {G : Gw} (hG : fw_IsM G) (O : fw_Ok X G cX4_read 9 RX4 2 46 (some .int)) {a1 : Int32} {a2 : Int32} {a3 : Int32} {a4 : Int32} {post : Int32 → Mem → Prop} {k55 : Int32 → Int32 → Int32 → Mem → Prop}  (hk55 : ∀ (x5 : Int32) (x6 : Int32) (x7 : Int32) (σ : Mem), k55 x5 x6 x7 σ → fw_At X G 9 (fw_QI X G post) 55 [(0, .ref (gad G 0)), (1, .int a1), (2, .int a2), (3, .int a3), (4, .int a4), (5, .int x5), (6, .int x6), (7, .int x7)] [] σ) {x5 : Int32} {x6 : Int32} {x7 : Int32} {σ : Mem} (h : qX4_read_B171 a1 a2 a3 a4 post k55 x5 x6 x7 σ) : fw_At X G 9 (fw_QI X G post) 171 [(0, .ref (gad G 0)), (1, .int a1), (2, .int a2), (3, .int a3), (4, .int a4), (5, .int x5), (6, .int x6), (7, .int x7)] [] σ := by
  unfold qX4_read_B171 at h
  refine fr_iinc (pc := 171) O 7 [1, 2, 3, 4, 5, 6, 7, 0] (w := (1 : Int32)) (lvF := fun y7_171 => [(0, .ref (gad G 0)), (1, .int a1), (2, .int a2), (3, .int a3), (4, .int a4), (5, .int x5), (6, .int x6), (7, .int y7_171)]) dX4_read_171 rfl (by decide) (by decide) (fun _ => rfl) (fun y7_171 e_y7_171 => ?_)
  have h := h y7_171 e_y7_171
  refine fr_goto (pc := 174) (tgt := 55) O dX4_read_174 (by decide) ?_
  exact hk55 _ _ _ _ h
def qX4_read_B123 (a1 : Int32) (a2 : Int32) (a3 : Int32) (a4 : Int32) (post : Int32 → Mem → Prop) (k55 : Int32 → Int32 → Int32 → Mem → Prop) (x6 : Int32) (x7 : Int32) (s0 : Int32) (σ : Mem) : Prop := ((¬ s0 = 0 → qX4_read_B171 a1 a2 a3 a4 post k55 s0 x6 x7 σ) ∧ (s0 = 0 → (∀ y8_139 : Int32, y8_139 = (((40 : Int32) * a1) + a3) + x7 → (vp_in y8_139 160 ∧ (qX4_adds (σ 11 y8_139.toNatClampNeg) σ (fun r149 σ149 => ((0 ≤ r149 → (∀ y6_168 : Int32, y6_168 = x6 + (1 : Int32) → qX4_read_B171 a1 a2 a3 a4 post k55 s0 y6_168 x7 σ149)) ∧ (¬ 0 ≤ r149 → (qX4_copies (117 : Int32) (0 : Int32) σ149 (fun σ159 => post ((-20 : Int32) - x6) σ159))))))))))
set_option maxRecDepth 20000 in
theorem kX4_read_B123 {X : Cx} {G : Gw} (hG : fw_IsM G) (O : fw_Ok X G cX4_read 9 RX4 2 46 (some .int)) {a1 : Int32} {a2 : Int32} {a3 : Int32} {a4 : Int32} {post : Int32 → Mem → Prop} {k55 : Int32 → Int32 → Int32 → Mem → Prop}  (hk55 : ∀ (x5 : Int32) (x6 : Int32) (x7 : Int32) (σ : Mem), k55 x5 x6 x7 σ → fw_At X G 9 (fw_QI X G post) 55 [(0, .ref (gad G 0)), (1, .int a1), (2, .int a2), (3, .int a3), (4, .int a4), (5, .int x5), (6, .int x6), (7, .int x7)] [] σ) {x6 : Int32} {x7 : Int32} {s0 : Int32} {σ : Mem} (h : qX4_read_B123 a1 a2 a3 a4 post k55 x6 x7 s0 σ) : fw_At X G 9 (fw_QI X G post) 123 [(0, .ref (gad G 0)), (1, .int a1), (2, .int a2), (3, .int a3), (4, .int a4), (6, .int x6), (7, .int x7)] [.int s0] σ := by
  unfold qX4_read_B123 at h
  refine fr_istore (pc := 123) O [1, 2, 3, 4, 5, 0, 6, 7] (lv' := [(0, .ref (gad G 0)), (1, .int a1), (2, .int a2), (3, .int a3), (4, .int a4), (5, .int s0), (6, .int x6), (7, .int x7)]) dX4_read_123 (by decide) rfl ?_
  refine fr_iload (pc := 125) O 5 dX4_read_125 rfl ?_
  refine fr_if_ne (pc := 127) (tgt := 171) O dX4_read_127 (by decide) (fun c_127 => ?_) (fun c_127 => ?_)
  · have h := h.1 c_127
    exact kX4_read_B171 hG O hk55 h
  · have h := h.2 c_127
    refine fr_bipush (pc := 130) O (v := (40 : Int32)) dX4_read_130 (by decide) ?_
    refine fr_iload_n (pc := 132) O 1 dX4_read_132 rfl rfl ?_
    refine fr_imul (pc := 133) O dX4_read_133 ?_
    refine fr_iload_n (pc := 134) O 3 dX4_read_134 rfl rfl ?_
    refine fr_iadd (pc := 135) O dX4_read_135 ?_
    refine fr_iload (pc := 136) O 7 dX4_read_136 rfl ?_
    refine fr_iadd (pc := 138) O dX4_read_138 ?_
    refine fr_nm (fun y8_139 e_y8_139 => ?_)
    have h := h y8_139 e_y8_139
    refine fr_istore (pc := 139) O [1, 2, 3, 4, 5, 6, 7, 8, 0] (lv' := [(0, .ref (gad G 0)), (1, .int a1), (2, .int a2), (3, .int a3), (4, .int a4), (5, .int s0), (6, .int x6), (7, .int x7), (8, .int y8_139)]) dX4_read_139 (by decide) rfl ?_
    refine fr_aload_n (pc := 141) O 0 dX4_read_141 rfl rfl ?_
    refine fr_aload_n (pc := 142) O 0 dX4_read_142 rfl rfl ?_
    refine fr_get (pc := 143) (k := 24) (v := .ref (gad G 11)) O cl_X4 m_737 (sM_0 hG) (by decide) rfl rfl dX4_read_143 ?_
    refine fr_iload (pc := 146) O 8 dX4_read_146 rfl ?_
    have hi_148 := h.1
    have h := h.2
    refine fr_iald (pc := 148) O (sM_11 hG) hi_148 dX4_read_148 ?_
    refine fr_callVI (pc := 149) (st := []) O (tX4_adds X.2.1 hG  h) mt_X4_adds mv_X4_adds m_907 cl_X4 rfl (sM_0 hG) rfl (by decide) rfl (Nat.le_of_ble_eq_true rfl) dX4_read_149 (fun r149 σ149 h => ?_)
    refine fr_if_ge (pc := 152) (tgt := 168) O dX4_read_152 (by decide) (fun c_152 => ?_) (fun c_152 => ?_)
    · have h := h.1 c_152
      refine fr_iinc (pc := 168) O 6 [1, 2, 3, 4, 5, 6, 0, 7, 8] (w := (1 : Int32)) (lvF := fun y6_168 => [(0, .ref (gad G 0)), (1, .int a1), (2, .int a2), (3, .int a3), (4, .int a4), (5, .int s0), (6, .int y6_168), (7, .int x7), (8, .int y8_139)]) dX4_read_168 rfl (by decide) (by decide) (fun _ => rfl) (fun y6_168 e_y6_168 => ?_)
      have h := h y6_168 e_y6_168
      refine fw_sub (lv' := [(0, .ref (gad G 0)), (1, .int a1), (2, .int a2), (3, .int a3), (4, .int a4), (5, .int s0), (6, .int y6_168), (7, .int x7)]) [0, 1, 2, 3, 4, 5, 6, 7] rfl ?_
      exact kX4_read_B171 hG O hk55 h
    · have h := h.2 c_152
      refine fr_aload_n (pc := 155) O 0 dX4_read_155 rfl rfl ?_
      refine fr_bipush (pc := 156) O (v := (117 : Int32)) dX4_read_156 (by decide) ?_
      refine fr_iconst (pc := 158) O (v := (0 : Int32)) dX4_read_158 (by decide) ?_
      refine fr_callVV (pc := 159) (st := []) O (tX4_copies X.2.1 hG  h) mt_X4_copies mv_X4_copies m_949 cl_X4 rfl (sM_0 hG) rfl (by decide) rfl (Nat.le_of_ble_eq_true rfl) dX4_read_159 (fun σ159 h => ?_)
      refine fr_bipush (pc := 162) O (v := (-20 : Int32)) dX4_read_162 (by decide) ?_
      refine fr_iload (pc := 164) O 6 dX4_read_164 rfl ?_
      refine fr_isub (pc := 166) O dX4_read_166 ?_
      exact fr_iret (pc := 167) O dX4_read_167 h
def qX4_read_L55 (a1 : Int32) (a2 : Int32) (a3 : Int32) (a4 : Int32) (post : Int32 → Mem → Prop) (k55 : Int32 → Int32 → Int32 → Mem → Prop) (x5 : Int32) (x6 : Int32) (x7 : Int32) (σ : Mem) : Prop := ((a4 ≤ x7 → qX4_read_B177 a1 a2 a3 a4 post x5 x6 σ) ∧ (¬ a4 ≤ x7 → ((¬ x5 = 0 → qX4_read_B177 a1 a2 a3 a4 post x5 x6 σ) ∧ (x5 = 0 → (vp_in a1 4 ∧ ((¬ (σ 9 a1.toNatClampNeg) = (-4 : Int32) → (((σ 9 a1.toNatClampNeg) = a2 → (qX4_in (a3.toInt64 + x7.toInt64) (0 : Int64) (((σ 10 a1.toNatClampNeg) - (1 : Int32)).toInt64) σ (fun r112 σ112 => ((¬ r112 = 0 → qX4_read_B123 a1 a2 a3 a4 post k55 x6 x7 (0 : Int32) σ112) ∧ (r112 = 0 → qX4_read_B123 a1 a2 a3 a4 post k55 x6 x7 (2 : Int32) σ112))))) ∧ (¬ (σ 9 a1.toNatClampNeg) = a2 → qX4_read_B123 a1 a2 a3 a4 post k55 x6 x7 (3 : Int32) σ))) ∧ ((σ 9 a1.toNatClampNeg) = (-4 : Int32) → qX4_read_B123 a1 a2 a3 a4 post k55 x6 x7 (1 : Int32) σ)))))))
set_option maxRecDepth 20000 in
theorem kX4_read_L55 {X : Cx} {G : Gw} (hG : fw_IsM G) (O : fw_Ok X G cX4_read 9 RX4 2 46 (some .int)) {a1 : Int32} {a2 : Int32} {a3 : Int32} {a4 : Int32} {post : Int32 → Mem → Prop} {k55 : Int32 → Int32 → Int32 → Mem → Prop}  (hk55 : ∀ (x5 : Int32) (x6 : Int32) (x7 : Int32) (σ : Mem), k55 x5 x6 x7 σ → fw_At X G 9 (fw_QI X G post) 55 [(0, .ref (gad G 0)), (1, .int a1), (2, .int a2), (3, .int a3), (4, .int a4), (5, .int x5), (6, .int x6), (7, .int x7)] [] σ) {x5 : Int32} {x6 : Int32} {x7 : Int32} {σ : Mem} (h : qX4_read_L55 a1 a2 a3 a4 post k55 x5 x6 x7 σ) : fw_At X G 9 (fw_QI X G post) 55 [(0, .ref (gad G 0)), (1, .int a1), (2, .int a2), (3, .int a3), (4, .int a4), (5, .int x5), (6, .int x6), (7, .int x7)] [] σ := by
  unfold qX4_read_L55 at h
  refine fr_iload (pc := 55) O 7 dX4_read_55 rfl ?_
  refine fr_iload (pc := 57) O 4 dX4_read_57 rfl ?_
  refine fr_icmp_ge (pc := 59) (tgt := 177) O dX4_read_59 (by decide) (fun c_59 => ?_) (fun c_59 => ?_)
  · have h := h.1 c_59
    refine fw_sub (lv' := [(0, .ref (gad G 0)), (1, .int a1), (2, .int a2), (3, .int a3), (4, .int a4), (5, .int x5), (6, .int x6)]) [0, 1, 2, 3, 4, 5, 6] rfl ?_
    exact kX4_read_B177 hG O  h
  · have h := h.2 c_59
    refine fr_iload (pc := 62) O 5 dX4_read_62 rfl ?_
    refine fr_if_ne (pc := 64) (tgt := 177) O dX4_read_64 (by decide) (fun c_64 => ?_) (fun c_64 => ?_)
    · have h := h.1 c_64
      refine fw_sub (lv' := [(0, .ref (gad G 0)), (1, .int a1), (2, .int a2), (3, .int a3), (4, .int a4), (5, .int x5), (6, .int x6)]) [0, 1, 2, 3, 4, 5, 6] rfl ?_
      exact kX4_read_B177 hG O  h
    · have h := h.2 c_64
      refine fr_aload_n (pc := 67) O 0 dX4_read_67 rfl rfl ?_
      refine fr_get (pc := 68) (k := 22) (v := .ref (gad G 9)) O cl_X4 m_735 (sM_0 hG) (by decide) rfl rfl dX4_read_68 ?_
      refine fr_iload_n (pc := 71) O 1 dX4_read_71 rfl rfl ?_
      have hi_72 := h.1
      have h := h.2
      refine fr_iald (pc := 72) O (sM_9 hG) hi_72 dX4_read_72 ?_
      refine fr_bipush (pc := 73) O (v := (-4 : Int32)) dX4_read_73 (by decide) ?_
      refine fr_icmp_ne (pc := 75) (tgt := 82) O dX4_read_75 (by decide) (fun c_75 => ?_) (fun c_75 => ?_)
      · have h := h.1 c_75
        refine fr_aload_n (pc := 82) O 0 dX4_read_82 rfl rfl ?_
        refine fr_get (pc := 83) (k := 22) (v := .ref (gad G 9)) O cl_X4 m_735 (sM_0 hG) (by decide) rfl rfl dX4_read_83 ?_
        refine fr_iload_n (pc := 86) O 1 dX4_read_86 rfl rfl ?_
        refine fr_iald (pc := 87) O (sM_9 hG) hi_72 dX4_read_87 ?_
        refine fr_iload_n (pc := 88) O 2 dX4_read_88 rfl rfl ?_
        refine fr_icmp_eq (pc := 89) (tgt := 96) O dX4_read_89 (by decide) (fun c_89 => ?_) (fun c_89 => ?_)
        · have h := h.1 c_89
          refine fr_iload_n (pc := 96) O 3 dX4_read_96 rfl rfl ?_
          refine fr_i2l (pc := 97) O dX4_read_97 ?_
          refine fr_iload (pc := 98) O 7 dX4_read_98 rfl ?_
          refine fr_i2l (pc := 100) O dX4_read_100 ?_
          refine fr_ladd (pc := 101) O dX4_read_101 ?_
          refine fr_lconst (pc := 102) O (v := (0 : Int64)) dX4_read_102 (by decide) ?_
          refine fr_aload_n (pc := 103) O 0 dX4_read_103 rfl rfl ?_
          refine fr_get (pc := 104) (k := 23) (v := .ref (gad G 10)) O cl_X4 m_736 (sM_0 hG) (by decide) rfl rfl dX4_read_104 ?_
          refine fr_iload_n (pc := 107) O 1 dX4_read_107 rfl rfl ?_
          refine fr_iald (pc := 108) O (sM_10 hG) hi_72 dX4_read_108 ?_
          refine fr_iconst (pc := 109) O (v := (1 : Int32)) dX4_read_109 (by decide) ?_
          refine fr_isub (pc := 110) O dX4_read_110 ?_
          refine fr_i2l (pc := 111) O dX4_read_111 ?_
          refine fr_callSI (pc := 112) (st := []) O (tX4_in X.2.1 hG  h) mt_X4_in m_798 m_797 rfl (by decide) rfl (Nat.le_of_ble_eq_true rfl) dX4_read_112 (fun r112 σ112 h => ?_)
          refine fr_if_ne (pc := 115) (tgt := 122) O dX4_read_115 (by decide) (fun c_115 => ?_) (fun c_115 => ?_)
          · have h := h.1 c_115
            refine fr_iconst (pc := 122) O (v := (0 : Int32)) dX4_read_122 (by decide) ?_
            refine fw_sub (lv' := [(0, .ref (gad G 0)), (1, .int a1), (2, .int a2), (3, .int a3), (4, .int a4), (6, .int x6), (7, .int x7)]) [0, 1, 2, 3, 4, 6, 7] rfl ?_
            exact kX4_read_B123 hG O hk55 h
          · have h := h.2 c_115
            refine fr_iconst (pc := 118) O (v := (2 : Int32)) dX4_read_118 (by decide) ?_
            refine fr_goto (pc := 119) (tgt := 123) O dX4_read_119 (by decide) ?_
            refine fw_sub (lv' := [(0, .ref (gad G 0)), (1, .int a1), (2, .int a2), (3, .int a3), (4, .int a4), (6, .int x6), (7, .int x7)]) [0, 1, 2, 3, 4, 6, 7] rfl ?_
            exact kX4_read_B123 hG O hk55 h
        · have h := h.2 c_89
          refine fr_iconst (pc := 92) O (v := (3 : Int32)) dX4_read_92 (by decide) ?_
          refine fr_goto (pc := 93) (tgt := 123) O dX4_read_93 (by decide) ?_
          refine fw_sub (lv' := [(0, .ref (gad G 0)), (1, .int a1), (2, .int a2), (3, .int a3), (4, .int a4), (6, .int x6), (7, .int x7)]) [0, 1, 2, 3, 4, 6, 7] rfl ?_
          exact kX4_read_B123 hG O hk55 h
      · have h := h.2 c_75
        refine fr_iconst (pc := 78) O (v := (1 : Int32)) dX4_read_78 (by decide) ?_
        refine fr_goto (pc := 79) (tgt := 123) O dX4_read_79 (by decide) ?_
        refine fw_sub (lv' := [(0, .ref (gad G 0)), (1, .int a1), (2, .int a2), (3, .int a3), (4, .int a4), (6, .int x6), (7, .int x7)]) [0, 1, 2, 3, 4, 6, 7] rfl ?_
        exact kX4_read_B123 hG O hk55 h
set_option maxRecDepth 20000 in
theorem kX4_read_L55w {X : Cx} {G : Gw} (hG : fw_IsM G) (O : fw_Ok X G cX4_read 9 RX4 2 46 (some .int)) {a1 : Int32} {a2 : Int32} {a3 : Int32} {a4 : Int32} {post : Int32 → Mem → Prop}   {n9 : Nat} {x5 : Int32} {x6 : Int32} {x7 : Int32} {σ : Mem} (h : it3 (qX4_read_L55 a1 a2 a3 a4 post) n9 x5 x6 x7 σ) : fw_At X G 9 (fw_QI X G post) 55 [(0, .ref (gad G 0)), (1, .int a1), (2, .int a2), (3, .int a3), (4, .int a4), (5, .int x5), (6, .int x6), (7, .int x7)] [] σ :=
  it3_walk (T := fun x5 x6 x7 σ => fw_At X G 9 (fw_QI X G post) 55 [(0, .ref (gad G 0)), (1, .int a1), (2, .int a2), (3, .int a3), (4, .int a4), (5, .int x5), (6, .int x6), (7, .int x7)] [] σ) (fun k55 hk55 x5 x6 x7 σ h => kX4_read_L55 hG O hk55 h) n9 x5 x6 x7 σ h
def qX4_read (a1 : Int32) (a2 : Int32) (a3 : Int32) (a4 : Int32) (σ : Mem) (post : Int32 → Mem → Prop) : Prop := (qX4_in a1.toInt64 (0 : Int64) (3 : Int64) σ (fun r6 σ6 => ((r6 = 0 → qX4_read_B37 a1 a2 a3 a4 post σ6) ∧ (¬ r6 = 0 → (qX4_in a2.toInt64 (0 : Int64) (2 : Int64) σ6 (fun r18 σ18 => ((r18 = 0 → qX4_read_B37 a1 a2 a3 a4 post σ18) ∧ (¬ r18 = 0 → (qX4_in a4.toInt64 (0 : Int64) (40 : Int64) σ18 (fun r31 σ31 => ((¬ r31 = 0 → (qX4_copies (0 : Int32) (117 : Int32) σ31 (fun σ43 => ∃ n9, it3 (qX4_read_L55 a1 a2 a3 a4 post) n9 (0 : Int32) (0 : Int32) (0 : Int32) σ43))) ∧ (r31 = 0 → qX4_read_B37 a1 a2 a3 a4 post σ31))))))))))))
set_option maxRecDepth 20000 in
theorem kX4_read {X : Cx} {G : Gw} (hG : fw_IsM G) (O : fw_Ok X G cX4_read 9 RX4 2 46 (some .int)) {a1 : Int32} {a2 : Int32} {a3 : Int32} {a4 : Int32}  {σ : Mem} {post : Int32 → Mem → Prop} (h : qX4_read a1 a2 a3 a4 σ post) : fw_At X G 9 (fw_QI X G post) 0 [(0, .ref (gad G 0)), (1, .int a1), (2, .int a2), (3, .int a3), (4, .int a4)] [] σ := by
  unfold qX4_read at h
  refine fr_iload_n (pc := 0) O 1 dX4_read_0 rfl rfl ?_
  refine fr_i2l (pc := 1) O dX4_read_1 ?_
  refine fr_lconst (pc := 2) O (v := (0 : Int64)) dX4_read_2 (by decide) ?_
  refine fr_ldc2 (pc := 3) O m_878 dX4_read_3 ?_
  refine fr_callSI (pc := 6) (st := []) O (tX4_in X.2.1 hG  h) mt_X4_in m_798 m_797 rfl (by decide) rfl (Nat.le_of_ble_eq_true rfl) dX4_read_6 (fun r6 σ6 h => ?_)
  refine fr_if_eq (pc := 9) (tgt := 37) O dX4_read_9 (by decide) (fun c_9 => ?_) (fun c_9 => ?_)
  · have h := h.1 c_9
    exact kX4_read_B37 hG O  h
  · have h := h.2 c_9
    refine fr_iload_n (pc := 12) O 2 dX4_read_12 rfl rfl ?_
    refine fr_i2l (pc := 13) O dX4_read_13 ?_
    refine fr_lconst (pc := 14) O (v := (0 : Int64)) dX4_read_14 (by decide) ?_
    refine fr_ldc2 (pc := 15) O m_1070 dX4_read_15 ?_
    refine fr_callSI (pc := 18) (st := []) O (tX4_in X.2.1 hG  h) mt_X4_in m_798 m_797 rfl (by decide) rfl (Nat.le_of_ble_eq_true rfl) dX4_read_18 (fun r18 σ18 h => ?_)
    refine fr_if_eq (pc := 21) (tgt := 37) O dX4_read_21 (by decide) (fun c_21 => ?_) (fun c_21 => ?_)
    · have h := h.1 c_21
      exact kX4_read_B37 hG O  h
    · have h := h.2 c_21
      refine fr_iload (pc := 24) O 4 dX4_read_24 rfl ?_
      refine fr_i2l (pc := 26) O dX4_read_26 ?_
      refine fr_lconst (pc := 27) O (v := (0 : Int64)) dX4_read_27 (by decide) ?_
      refine fr_ldc2 (pc := 28) O m_1023 dX4_read_28 ?_
      refine fr_callSI (pc := 31) (st := []) O (tX4_in X.2.1 hG  h) mt_X4_in m_798 m_797 rfl (by decide) rfl (Nat.le_of_ble_eq_true rfl) dX4_read_31 (fun r31 σ31 h => ?_)
      refine fr_if_ne (pc := 34) (tgt := 39) O dX4_read_34 (by decide) (fun c_34 => ?_) (fun c_34 => ?_)
      · have h := h.1 c_34
        refine fr_aload_n (pc := 39) O 0 dX4_read_39 rfl rfl ?_
        refine fr_iconst (pc := 40) O (v := (0 : Int32)) dX4_read_40 (by decide) ?_
        refine fr_bipush (pc := 41) O (v := (117 : Int32)) dX4_read_41 (by decide) ?_
        refine fr_callVV (pc := 43) (st := []) O (tX4_copies X.2.1 hG  h) mt_X4_copies mv_X4_copies m_949 cl_X4 rfl (sM_0 hG) rfl (by decide) rfl (Nat.le_of_ble_eq_true rfl) dX4_read_43 (fun σ43 h => ?_)
        refine fr_iconst (pc := 46) O (v := (0 : Int32)) dX4_read_46 (by decide) ?_
        refine fr_istore (pc := 47) O [1, 2, 3, 4, 5, 0] (lv' := [(0, .ref (gad G 0)), (1, .int a1), (2, .int a2), (3, .int a3), (4, .int a4), (5, .int (0 : Int32))]) dX4_read_47 (by decide) rfl ?_
        refine fr_iconst (pc := 49) O (v := (0 : Int32)) dX4_read_49 (by decide) ?_
        refine fr_istore (pc := 50) O [1, 2, 3, 4, 5, 6, 0] (lv' := [(0, .ref (gad G 0)), (1, .int a1), (2, .int a2), (3, .int a3), (4, .int a4), (5, .int (0 : Int32)), (6, .int (0 : Int32))]) dX4_read_50 (by decide) rfl ?_
        refine fr_iconst (pc := 52) O (v := (0 : Int32)) dX4_read_52 (by decide) ?_
        refine fr_istore (pc := 53) O [1, 2, 3, 4, 5, 6, 7, 0] (lv' := [(0, .ref (gad G 0)), (1, .int a1), (2, .int a2), (3, .int a3), (4, .int a4), (5, .int (0 : Int32)), (6, .int (0 : Int32)), (7, .int (0 : Int32))]) dX4_read_53 (by decide) rfl ?_
        obtain ⟨n9, h⟩ := h
        exact kX4_read_L55w hG O  h
      · have h := h.2 c_34
        exact kX4_read_B37 hG O  h
theorem tX4_read (l : Launch) {G : Gw} (hG : fw_IsM G) {a1 : Int32} {a2 : Int32} {a3 : Int32} {a4 : Int32}  {σ : Mem} {post : Int32 → Mem → Prop} (h : qX4_read a1 a2 a3 a4 σ post) : fw_CI l G yX4_read cX4_read 9 .int 2 46 [.ref (gad G 0), .int a1, .int a2, .int a3, .int a4] σ post := fw_ofI (sok_M hG) (by decide) (Nat.le_of_ble_eq_true rfl) (fun X O => kX4_read hG O  h)
def qX4_torn  (σ : Mem) (post : Int32 → Mem → Prop) : Prop := post (σ 0 25) σ
set_option maxRecDepth 20000 in
theorem kX4_torn {X : Cx} {G : Gw} (hG : fw_IsM G) (O : fw_Ok X G cX4_torn 1 RX4 0 0 (some .int))   {σ : Mem} {post : Int32 → Mem → Prop} (h : qX4_torn  σ post) : fw_At X G 1 (fw_QI X G post) 0 [(0, .ref (gad G 0))] [] σ := by
  unfold qX4_torn at h
  refine fr_aload_n (pc := 0) O 0 dX4_torn_0 rfl rfl ?_
  refine fr_get (pc := 1) (k := 25) (v := .int (σ 0 25)) O cl_X4 m_738 (sM_0 hG) (by decide) rfl rfl dX4_torn_1 ?_
  exact fr_iret (pc := 4) O dX4_torn_4 h
theorem tX4_torn (l : Launch) {G : Gw} (hG : fw_IsM G)   {σ : Mem} {post : Int32 → Mem → Prop} (h : qX4_torn  σ post) : fw_CI l G yX4_torn cX4_torn 1 .int 0 0 [.ref (gad G 0)] σ post := fw_ofI (sok_M hG) (by decide) (Nat.le_of_ble_eq_true rfl) (fun X O => kX4_torn hG O  h)
def qX4_count_B121 (a1 : Int32) (post : Int32 → Mem → Prop) (s0 : Int32) (s1 : Int32) (σ : Mem) : Prop := post (s0 + s1) σ
set_option maxRecDepth 20000 in
theorem kX4_count_B121 {X : Cx} {G : Gw} (hG : fw_IsM G) (O : fw_Ok X G cX4_count 5 RX4 0 0 (some .int)) {a1 : Int32} {post : Int32 → Mem → Prop}   {s0 : Int32} {s1 : Int32} {σ : Mem} (h : qX4_count_B121 a1 post s0 s1 σ) : fw_At X G 5 (fw_QI X G post) 121 [(0, .ref (gad G 0)), (1, .int a1)] [.int s1, .int s0] σ := by
  unfold qX4_count_B121 at h
  refine fr_iadd (pc := 121) O dX4_count_121 ?_
  exact fr_iret (pc := 122) O dX4_count_122 h
def qX4_count_B107 (a1 : Int32) (post : Int32 → Mem → Prop) (s0 : Int32) (σ : Mem) : Prop := (vp_in (1 : Int32) 2 ∧ (((σ 8 (1 : Int32).toNatClampNeg) = 0 → qX4_count_B121 a1 post s0 (0 : Int32) σ) ∧ (¬ (σ 8 (1 : Int32).toNatClampNeg) = 0 → qX4_count_B121 a1 post s0 (1 : Int32) σ)))
set_option maxRecDepth 20000 in
theorem kX4_count_B107 {X : Cx} {G : Gw} (hG : fw_IsM G) (O : fw_Ok X G cX4_count 5 RX4 0 0 (some .int)) {a1 : Int32} {post : Int32 → Mem → Prop}   {s0 : Int32} {σ : Mem} (h : qX4_count_B107 a1 post s0 σ) : fw_At X G 5 (fw_QI X G post) 107 [(0, .ref (gad G 0)), (1, .int a1)] [.int s0] σ := by
  unfold qX4_count_B107 at h
  refine fr_aload_n (pc := 107) O 0 dX4_count_107 rfl rfl ?_
  refine fr_get (pc := 108) (k := 21) (v := .ref (gad G 8)) O cl_X4 m_734 (sM_0 hG) (by decide) rfl rfl dX4_count_108 ?_
  refine fr_iconst (pc := 111) O (v := (1 : Int32)) dX4_count_111 (by decide) ?_
  have hi_112 := h.1
  have h := h.2
  refine fr_zald (pc := 112) O (sM_8 hG) hi_112 dX4_count_112 ?_
  refine fr_if_eq (pc := 113) (tgt := 120) O dX4_count_113 (by decide) (fun c_113 => ?_) (fun c_113 => ?_)
  · have h := h.1 c_113
    refine fr_iconst (pc := 120) O (v := (0 : Int32)) dX4_count_120 (by decide) ?_
    exact kX4_count_B121 hG O  h
  · have h := h.2 c_113
    refine fr_iconst (pc := 116) O (v := (1 : Int32)) dX4_count_116 (by decide) ?_
    refine fr_goto (pc := 117) (tgt := 121) O dX4_count_117 (by decide) ?_
    exact kX4_count_B121 hG O  h
def qX4_count_B150 (a1 : Int32) (post : Int32 → Mem → Prop) (s0 : Int32) (σ : Mem) : Prop := post s0 σ
set_option maxRecDepth 20000 in
theorem kX4_count_B150 {X : Cx} {G : Gw} (hG : fw_IsM G) (O : fw_Ok X G cX4_count 5 RX4 0 0 (some .int)) {a1 : Int32} {post : Int32 → Mem → Prop}   {s0 : Int32} {σ : Mem} (h : qX4_count_B150 a1 post s0 σ) : fw_At X G 5 (fw_QI X G post) 150 [(0, .ref (gad G 0)), (1, .int a1)] [.int s0] σ := by
  unfold qX4_count_B150 at h
  exact fr_iret (pc := 150) O dX4_count_150 h
def qX4_count_L7 (a1 : Int32) (post : Int32 → Mem → Prop) (k7 : Int32 → Int32 → Int32 → Mem → Prop) (x2 : Int32) (x3 : Int32) (x4 : Int32) (σ : Mem) : Prop := (vp_in (16 : Int32) 234 ∧ (((σ 1 (16 : Int32).toNatClampNeg) ≤ x4 → ((a1 = (0 : Int32) → post (σ 0 19) σ) ∧ (¬ a1 = (0 : Int32) → ((a1 = (1 : Int32) → (vp_in (0 : Int32) 2 ∧ (((σ 8 (0 : Int32).toNatClampNeg) = 0 → qX4_count_B107 a1 post (0 : Int32) σ) ∧ (¬ (σ 8 (0 : Int32).toNatClampNeg) = 0 → qX4_count_B107 a1 post (1 : Int32) σ)))) ∧ (¬ a1 = (1 : Int32) → ((a1 = (2 : Int32) → post (σ 0 4) σ) ∧ (¬ a1 = (2 : Int32) → ((a1 = (3 : Int32) → (vp_in (0 : Int32) 4 ∧ ((¬ (σ 9 (0 : Int32).toNatClampNeg) = (-4 : Int32) → qX4_count_B150 a1 post (σ 10 (0 : Int32).toNatClampNeg) σ) ∧ ((σ 9 (0 : Int32).toNatClampNeg) = (-4 : Int32) → qX4_count_B150 a1 post (-4 : Int32) σ)))) ∧ (¬ a1 = (3 : Int32) → ((a1 = (4 : Int32) → post x2 σ) ∧ (¬ a1 = (4 : Int32) → ((a1 = (5 : Int32) → post x3 σ) ∧ (¬ a1 = (5 : Int32) → post (-1 : Int32) σ))))))))))))) ∧ (¬ (σ 1 (16 : Int32).toNatClampNeg) ≤ x4 → (vp_in ((4 : Int32) + x4) 234 ∧ (∀ y2_30 : Int32, y2_30 = x2 + (σ 1 ((4 : Int32) + x4).toNatClampNeg) → (vp_in ((8 : Int32) + x4) 234 ∧ (∀ y3_43 : Int32, y3_43 = x3 + (σ 1 ((8 : Int32) + x4).toNatClampNeg) → (∀ y4_44 : Int32, y4_44 = x4 + (1 : Int32) → k7 y2_30 y3_43 y4_44 σ))))))))
set_option maxRecDepth 20000 in
theorem kX4_count_L7 {X : Cx} {G : Gw} (hG : fw_IsM G) (O : fw_Ok X G cX4_count 5 RX4 0 0 (some .int)) {a1 : Int32} {post : Int32 → Mem → Prop} {k7 : Int32 → Int32 → Int32 → Mem → Prop}  (hk7 : ∀ (x2 : Int32) (x3 : Int32) (x4 : Int32) (σ : Mem), k7 x2 x3 x4 σ → fw_At X G 5 (fw_QI X G post) 7 [(0, .ref (gad G 0)), (1, .int a1), (2, .int x2), (3, .int x3), (4, .int x4)] [] σ) {x2 : Int32} {x3 : Int32} {x4 : Int32} {σ : Mem} (h : qX4_count_L7 a1 post k7 x2 x3 x4 σ) : fw_At X G 5 (fw_QI X G post) 7 [(0, .ref (gad G 0)), (1, .int a1), (2, .int x2), (3, .int x3), (4, .int x4)] [] σ := by
  unfold qX4_count_L7 at h
  refine fr_iload (pc := 7) O 4 dX4_count_7 rfl ?_
  refine fr_aload_n (pc := 9) O 0 dX4_count_9 rfl rfl ?_
  refine fr_get (pc := 10) (k := 0) (v := .ref (gad G 1)) O cl_X4 m_713 (sM_0 hG) (by decide) rfl rfl dX4_count_10 ?_
  refine fr_bipush (pc := 13) O (v := (16 : Int32)) dX4_count_13 (by decide) ?_
  have hi_15 := h.1
  have h := h.2
  refine fr_iald (pc := 15) O (sM_1 hG) hi_15 dX4_count_15 ?_
  refine fr_icmp_ge (pc := 16) (tgt := 50) O dX4_count_16 (by decide) (fun c_16 => ?_) (fun c_16 => ?_)
  · have h := h.1 c_16
    refine fr_iload_n (pc := 50) O 1 dX4_count_50 rfl rfl ?_
    by_cases e51_0 : a1 = (0 : Int32)
    · refine fr_tabIn (pc := 51) (tgt := 88) (off := 37) O dX4_count_51 (by rw [e51_0]; decide) ?_
      have h := h.1 e51_0
      refine fr_aload_n (pc := 88) O 0 dX4_count_88 rfl rfl ?_
      refine fr_get (pc := 89) (k := 19) (v := .int (σ 0 19)) O cl_X4 m_732 (sM_0 hG) (by decide) rfl rfl dX4_count_89 ?_
      exact fr_iret (pc := 92) O dX4_count_92 h
    · have h := h.2 e51_0
      by_cases e51_1 : a1 = (1 : Int32)
      · refine fr_tabIn (pc := 51) (tgt := 93) (off := 42) O dX4_count_51 (by rw [e51_1]; decide) ?_
        have h := h.1 e51_1
        refine fr_aload_n (pc := 93) O 0 dX4_count_93 rfl rfl ?_
        refine fr_get (pc := 94) (k := 21) (v := .ref (gad G 8)) O cl_X4 m_734 (sM_0 hG) (by decide) rfl rfl dX4_count_94 ?_
        refine fr_iconst (pc := 97) O (v := (0 : Int32)) dX4_count_97 (by decide) ?_
        have hi_98 := h.1
        have h := h.2
        refine fr_zald (pc := 98) O (sM_8 hG) hi_98 dX4_count_98 ?_
        refine fr_if_eq (pc := 99) (tgt := 106) O dX4_count_99 (by decide) (fun c_99 => ?_) (fun c_99 => ?_)
        · have h := h.1 c_99
          refine fr_iconst (pc := 106) O (v := (0 : Int32)) dX4_count_106 (by decide) ?_
          refine fw_sub (lv' := [(0, .ref (gad G 0)), (1, .int a1)]) [0, 1] rfl ?_
          exact kX4_count_B107 hG O  h
        · have h := h.2 c_99
          refine fr_iconst (pc := 102) O (v := (1 : Int32)) dX4_count_102 (by decide) ?_
          refine fr_goto (pc := 103) (tgt := 107) O dX4_count_103 (by decide) ?_
          refine fw_sub (lv' := [(0, .ref (gad G 0)), (1, .int a1)]) [0, 1] rfl ?_
          exact kX4_count_B107 hG O  h
      · have h := h.2 e51_1
        by_cases e51_2 : a1 = (2 : Int32)
        · refine fr_tabIn (pc := 51) (tgt := 123) (off := 72) O dX4_count_51 (by rw [e51_2]; decide) ?_
          have h := h.1 e51_2
          refine fr_aload_n (pc := 123) O 0 dX4_count_123 rfl rfl ?_
          refine fr_get (pc := 124) (k := 4) (v := .int (σ 0 4)) O cl_X4 m_717 (sM_0 hG) (by decide) rfl rfl dX4_count_124 ?_
          exact fr_iret (pc := 127) O dX4_count_127 h
        · have h := h.2 e51_2
          by_cases e51_3 : a1 = (3 : Int32)
          · refine fr_tabIn (pc := 51) (tgt := 128) (off := 77) O dX4_count_51 (by rw [e51_3]; decide) ?_
            have h := h.1 e51_3
            refine fr_aload_n (pc := 128) O 0 dX4_count_128 rfl rfl ?_
            refine fr_get (pc := 129) (k := 22) (v := .ref (gad G 9)) O cl_X4 m_735 (sM_0 hG) (by decide) rfl rfl dX4_count_129 ?_
            refine fr_iconst (pc := 132) O (v := (0 : Int32)) dX4_count_132 (by decide) ?_
            have hi_133 := h.1
            have h := h.2
            refine fr_iald (pc := 133) O (sM_9 hG) hi_133 dX4_count_133 ?_
            refine fr_bipush (pc := 134) O (v := (-4 : Int32)) dX4_count_134 (by decide) ?_
            refine fr_icmp_ne (pc := 136) (tgt := 144) O dX4_count_136 (by decide) (fun c_136 => ?_) (fun c_136 => ?_)
            · have h := h.1 c_136
              refine fr_aload_n (pc := 144) O 0 dX4_count_144 rfl rfl ?_
              refine fr_get (pc := 145) (k := 23) (v := .ref (gad G 10)) O cl_X4 m_736 (sM_0 hG) (by decide) rfl rfl dX4_count_145 ?_
              refine fr_iconst (pc := 148) O (v := (0 : Int32)) dX4_count_148 (by decide) ?_
              refine fr_iald (pc := 149) O (sM_10 hG) hi_133 dX4_count_149 ?_
              refine fw_sub (lv' := [(0, .ref (gad G 0)), (1, .int a1)]) [0, 1] rfl ?_
              exact kX4_count_B150 hG O  h
            · have h := h.2 c_136
              refine fr_bipush (pc := 139) O (v := (-4 : Int32)) dX4_count_139 (by decide) ?_
              refine fr_goto (pc := 141) (tgt := 150) O dX4_count_141 (by decide) ?_
              refine fw_sub (lv' := [(0, .ref (gad G 0)), (1, .int a1)]) [0, 1] rfl ?_
              exact kX4_count_B150 hG O  h
          · have h := h.2 e51_3
            by_cases e51_4 : a1 = (4 : Int32)
            · refine fr_tabIn (pc := 51) (tgt := 151) (off := 100) O dX4_count_51 (by rw [e51_4]; decide) ?_
              have h := h.1 e51_4
              refine fr_iload_n (pc := 151) O 2 dX4_count_151 rfl rfl ?_
              exact fr_iret (pc := 152) O dX4_count_152 h
            · have h := h.2 e51_4
              by_cases e51_5 : a1 = (5 : Int32)
              · refine fr_tabIn (pc := 51) (tgt := 153) (off := 102) O dX4_count_51 (by rw [e51_5]; decide) ?_
                have h := h.1 e51_5
                refine fr_iload_n (pc := 153) O 3 dX4_count_153 rfl rfl ?_
                exact fr_iret (pc := 154) O dX4_count_154 h
              · have h := h.2 e51_5
                have n0 := lv_neT e51_0 (show ((0 : Int32)).toInt = 0 by decide)
                have n1 := lv_neT e51_1 (show ((1 : Int32)).toInt = 1 by decide)
                have n2 := lv_neT e51_2 (show ((2 : Int32)).toInt = 2 by decide)
                have n3 := lv_neT e51_3 (show ((3 : Int32)).toInt = 3 by decide)
                have n4 := lv_neT e51_4 (show ((4 : Int32)).toInt = 4 by decide)
                have n5 := lv_neT e51_5 (show ((5 : Int32)).toInt = 5 by decide)
                refine fr_tabOut (pc := 51) (tgt := 155) O dX4_count_51 (by omega) (by decide) ?_
                refine fr_iconst (pc := 155) O (v := (-1 : Int32)) dX4_count_155 (by decide) ?_
                exact fr_iret (pc := 156) O dX4_count_156 h
  · have h := h.2 c_16
    refine fr_iload_n (pc := 19) O 2 dX4_count_19 rfl rfl ?_
    refine fr_aload_n (pc := 20) O 0 dX4_count_20 rfl rfl ?_
    refine fr_get (pc := 21) (k := 0) (v := .ref (gad G 1)) O cl_X4 m_713 (sM_0 hG) (by decide) rfl rfl dX4_count_21 ?_
    refine fr_iconst (pc := 24) O (v := (4 : Int32)) dX4_count_24 (by decide) ?_
    refine fr_iload (pc := 25) O 4 dX4_count_25 rfl ?_
    refine fr_iadd (pc := 27) O dX4_count_27 ?_
    have hi_28 := h.1
    have h := h.2
    refine fr_iald (pc := 28) O (sM_1 hG) hi_28 dX4_count_28 ?_
    refine fr_iadd (pc := 29) O dX4_count_29 ?_
    refine fr_nm (fun y2_30 e_y2_30 => ?_)
    have h := h y2_30 e_y2_30
    refine fr_istore_n (pc := 30) O [1, 2, 0, 3, 4] (lv' := [(0, .ref (gad G 0)), (1, .int a1), (2, .int y2_30), (3, .int x3), (4, .int x4)]) dX4_count_30 rfl (by decide) rfl ?_
    refine fr_iload_n (pc := 31) O 3 dX4_count_31 rfl rfl ?_
    refine fr_aload_n (pc := 32) O 0 dX4_count_32 rfl rfl ?_
    refine fr_get (pc := 33) (k := 0) (v := .ref (gad G 1)) O cl_X4 m_713 (sM_0 hG) (by decide) rfl rfl dX4_count_33 ?_
    refine fr_bipush (pc := 36) O (v := (8 : Int32)) dX4_count_36 (by decide) ?_
    refine fr_iload (pc := 38) O 4 dX4_count_38 rfl ?_
    refine fr_iadd (pc := 40) O dX4_count_40 ?_
    have hi_41 := h.1
    have h := h.2
    refine fr_iald (pc := 41) O (sM_1 hG) hi_41 dX4_count_41 ?_
    refine fr_iadd (pc := 42) O dX4_count_42 ?_
    refine fr_nm (fun y3_43 e_y3_43 => ?_)
    have h := h y3_43 e_y3_43
    refine fr_istore_n (pc := 43) O [1, 2, 3, 0, 4] (lv' := [(0, .ref (gad G 0)), (1, .int a1), (2, .int y2_30), (3, .int y3_43), (4, .int x4)]) dX4_count_43 rfl (by decide) rfl ?_
    refine fr_iinc (pc := 44) O 4 [1, 2, 3, 4, 0] (w := (1 : Int32)) (lvF := fun y4_44 => [(0, .ref (gad G 0)), (1, .int a1), (2, .int y2_30), (3, .int y3_43), (4, .int y4_44)]) dX4_count_44 rfl (by decide) (by decide) (fun _ => rfl) (fun y4_44 e_y4_44 => ?_)
    have h := h y4_44 e_y4_44
    refine fr_goto (pc := 47) (tgt := 7) O dX4_count_47 (by decide) ?_
    exact hk7 _ _ _ _ h
set_option maxRecDepth 20000 in
theorem kX4_count_L7w {X : Cx} {G : Gw} (hG : fw_IsM G) (O : fw_Ok X G cX4_count 5 RX4 0 0 (some .int)) {a1 : Int32} {post : Int32 → Mem → Prop}   {n9 : Nat} {x2 : Int32} {x3 : Int32} {x4 : Int32} {σ : Mem} (h : it3 (qX4_count_L7 a1 post) n9 x2 x3 x4 σ) : fw_At X G 5 (fw_QI X G post) 7 [(0, .ref (gad G 0)), (1, .int a1), (2, .int x2), (3, .int x3), (4, .int x4)] [] σ :=
  it3_walk (T := fun x2 x3 x4 σ => fw_At X G 5 (fw_QI X G post) 7 [(0, .ref (gad G 0)), (1, .int a1), (2, .int x2), (3, .int x3), (4, .int x4)] [] σ) (fun k7 hk7 x2 x3 x4 σ h => kX4_count_L7 hG O hk7 h) n9 x2 x3 x4 σ h
def qX4_count (a1 : Int32) (σ : Mem) (post : Int32 → Mem → Prop) : Prop := ∃ n9, it3 (qX4_count_L7 a1 post) n9 (0 : Int32) (0 : Int32) (0 : Int32) σ
set_option maxRecDepth 20000 in
theorem kX4_count {X : Cx} {G : Gw} (hG : fw_IsM G) (O : fw_Ok X G cX4_count 5 RX4 0 0 (some .int)) {a1 : Int32}  {σ : Mem} {post : Int32 → Mem → Prop} (h : qX4_count a1 σ post) : fw_At X G 5 (fw_QI X G post) 0 [(0, .ref (gad G 0)), (1, .int a1)] [] σ := by
  unfold qX4_count at h
  refine fr_iconst (pc := 0) O (v := (0 : Int32)) dX4_count_0 (by decide) ?_
  refine fr_istore_n (pc := 1) O [1, 2, 0] (lv' := [(0, .ref (gad G 0)), (1, .int a1), (2, .int (0 : Int32))]) dX4_count_1 rfl (by decide) rfl ?_
  refine fr_iconst (pc := 2) O (v := (0 : Int32)) dX4_count_2 (by decide) ?_
  refine fr_istore_n (pc := 3) O [1, 2, 3, 0] (lv' := [(0, .ref (gad G 0)), (1, .int a1), (2, .int (0 : Int32)), (3, .int (0 : Int32))]) dX4_count_3 rfl (by decide) rfl ?_
  refine fr_iconst (pc := 4) O (v := (0 : Int32)) dX4_count_4 (by decide) ?_
  refine fr_istore (pc := 5) O [1, 2, 3, 4, 0] (lv' := [(0, .ref (gad G 0)), (1, .int a1), (2, .int (0 : Int32)), (3, .int (0 : Int32)), (4, .int (0 : Int32))]) dX4_count_5 (by decide) rfl ?_
  obtain ⟨n9, h⟩ := h
  exact kX4_count_L7w hG O  h
theorem tX4_count (l : Launch) {G : Gw} (hG : fw_IsM G) {a1 : Int32}  {σ : Mem} {post : Int32 → Mem → Prop} (h : qX4_count a1 σ post) : fw_CI l G yX4_count cX4_count 5 .int 0 0 [.ref (gad G 0), .int a1] σ post := fw_ofI (sok_M hG) (by decide) (Nat.le_of_ble_eq_true rfl) (fun X O => kX4_count hG O  h)
