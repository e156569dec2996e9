def qX3_feed (a1 : Int32) (σ : Mem) (post : Int32 → Mem → Prop) : Prop := (qX3_within a1 (0 : Int32) (127 : Int32) σ (fun r4 σ4 => ((¬ r4 = 0 → (qX2_append a1 σ4 (fun r17 σ17 => post r17 σ17))) ∧ (r4 = 0 → post (-1 : Int32) σ4))))
set_option maxRecDepth 20000 in
theorem kX3_feed {X : Cx} {G : Gw} (hG : fw_IsC G) (O : fw_Ok X G cX3_feed 2 RX3 1 22 (some .int)) {a1 : Int32}  {σ : Mem} {post : Int32 → Mem → Prop} (h : qX3_feed a1 σ post) : fw_At X G 2 (fw_QI X G post) 0 [(0, .ref (gad G 0)), (1, .int a1)] [] σ := by
  unfold qX3_feed at h
  refine fr_iload_n (pc := 0) O 1 dX3_feed_0 rfl rfl ?_
  refine fr_iconst (pc := 1) O (v := (0 : Int32)) dX3_feed_1 (by decide) ?_
  refine fr_bipush (pc := 2) O (v := (127 : Int32)) dX3_feed_2 (by decide) ?_
  refine fr_callSI (pc := 4) (st := []) O (tX3_within X.2.1 hG  h) mt_X3_within m_238 m_237 rfl (by decide) rfl (Nat.le_of_ble_eq_true rfl) dX3_feed_4 (fun r4 σ4 h => ?_)
  refine fr_if_ne (pc := 7) (tgt := 12) O dX3_feed_7 (by decide) (fun c_7 => ?_) (fun c_7 => ?_)
  · have h := h.1 c_7
    refine fr_aload_n (pc := 12) O 0 dX3_feed_12 rfl rfl ?_
    refine fr_get (pc := 13) (k := 5) (v := .ref (gad G 33)) O cl_X3 m_195 (sC_0 hG) (by decide) rfl rfl dX3_feed_13 ?_
    refine fr_iload_n (pc := 16) O 1 dX3_feed_16 rfl rfl ?_
    refine fr_callVI (pc := 17) (st := []) O (tX2_append X.2.1 hG  h) mt_X2_append mv_X2_append m_240 cl_X2 rfl (sC_33 hG) rfl (by decide) rfl (Nat.le_of_ble_eq_true rfl) dX3_feed_17 (fun r17 σ17 h => ?_)
    exact fr_iret (pc := 20) O dX3_feed_20 h
  · have h := h.2 c_7
    refine fr_iconst (pc := 10) O (v := (-1 : Int32)) dX3_feed_10 (by decide) ?_
    exact fr_iret (pc := 11) O dX3_feed_11 h
theorem tX3_feed (l : Launch) {G : Gw} (hG : fw_IsC G) {a1 : Int32}  {σ : Mem} {post : Int32 → Mem → Prop} (h : qX3_feed a1 σ post) : fw_CI l G yX3_feed cX3_feed 2 .int 1 22 [.ref (gad G 0), .int a1] σ post := fw_ofI (sok_C hG) (by decide) (Nat.le_of_ble_eq_true rfl) (fun X O => kX3_feed hG O  h)
def qX3_end (a1 : Int32) (σ : Mem) (post : Int32 → Mem → Prop) : Prop := (qX3_within a1 (0 : Int32) (σ 33 1) σ (fun r9 σ9 => ((¬ r9 = 0 → (∀ y2_24 : Int32, y2_24 = σ9 33 1 → (∀ σ30 : Mem, σ30 = up2 σ9 33 1 a1 → post y2_24 σ30))) ∧ (r9 = 0 → post (-1 : Int32) σ9))))
set_option maxRecDepth 20000 in
theorem kX3_end {X : Cx} {G : Gw} (hG : fw_IsC G) (O : fw_Ok X G cX3_end 3 RX3 1 22 (some .int)) {a1 : Int32}  {σ : Mem} {post : Int32 → Mem → Prop} (h : qX3_end a1 σ post) : fw_At X G 3 (fw_QI X G post) 0 [(0, .ref (gad G 0)), (1, .int a1)] [] σ := by
  unfold qX3_end at h
  refine fr_iload_n (pc := 0) O 1 dX3_end_0 rfl rfl ?_
  refine fr_iconst (pc := 1) O (v := (0 : Int32)) dX3_end_1 (by decide) ?_
  refine fr_aload_n (pc := 2) O 0 dX3_end_2 rfl rfl ?_
  refine fr_get (pc := 3) (k := 5) (v := .ref (gad G 33)) O cl_X3 m_195 (sC_0 hG) (by decide) rfl rfl dX3_end_3 ?_
  refine fr_get (pc := 6) (k := 1) (v := .int (σ 33 1)) O cl_X2 m_140 (sC_33 hG) (by decide) rfl rfl dX3_end_6 ?_
  refine fr_callSI (pc := 9) (st := []) O (tX3_within X.2.1 hG  h) mt_X3_within m_238 m_237 rfl (by decide) rfl (Nat.le_of_ble_eq_true rfl) dX3_end_9 (fun r9 σ9 h => ?_)
  refine fr_if_ne (pc := 12) (tgt := 17) O dX3_end_12 (by decide) (fun c_12 => ?_) (fun c_12 => ?_)
  · have h := h.1 c_12
    refine fr_aload_n (pc := 17) O 0 dX3_end_17 rfl rfl ?_
    refine fr_get (pc := 18) (k := 5) (v := .ref (gad G 33)) O cl_X3 m_195 (sC_0 hG) (by decide) rfl rfl dX3_end_18 ?_
    refine fr_get (pc := 21) (k := 1) (v := .int (σ9 33 1)) O cl_X2 m_140 (sC_33 hG) (by decide) rfl rfl dX3_end_21 ?_
    refine fr_nm (fun y2_24 e_y2_24 => ?_)
    have h := h y2_24 e_y2_24
    refine fr_istore_n (pc := 24) O [1, 2, 0] (lv' := [(0, .ref (gad G 0)), (1, .int a1), (2, .int y2_24)]) dX3_end_24 rfl (by decide) rfl ?_
    refine fr_aload_n (pc := 25) O 0 dX3_end_25 rfl rfl ?_
    refine fr_get (pc := 26) (k := 5) (v := .ref (gad G 33)) O cl_X3 m_195 (sC_0 hG) (by decide) rfl rfl dX3_end_26 ?_
    refine fr_iload_n (pc := 29) O 1 dX3_end_29 rfl rfl ?_
    refine fr_put (pc := 30) (k := 1) O cl_X2 m_140 (sC_33 hG) (by decide) rfl rfl rfl rfl (fun _ => Nat.le_of_ble_eq_true rfl) (fun _ => rfl) dX3_end_30 (fun σ30 e_σ30 => ?_)
    have h := h σ30 e_σ30
    refine fr_iload_n (pc := 33) O 2 dX3_end_33 rfl rfl ?_
    exact fr_iret (pc := 34) O dX3_end_34 h
  · have h := h.2 c_12
    refine fr_iconst (pc := 15) O (v := (-1 : Int32)) dX3_end_15 (by decide) ?_
    exact fr_iret (pc := 16) O dX3_end_16 h
theorem tX3_end (l : Launch) {G : Gw} (hG : fw_IsC G) {a1 : Int32}  {σ : Mem} {post : Int32 → Mem → Prop} (h : qX3_end a1 σ post) : fw_CI l G yX3_end cX3_end 3 .int 1 22 [.ref (gad G 0), .int a1] σ post := fw_ofI (sok_C hG) (by decide) (Nat.le_of_ble_eq_true rfl) (fun X O => kX3_end hG O  h)
def qX3_text_B74 (post : Int32 → Mem → Prop) (x1 : Int32) (σ : Mem) : Prop := post x1 σ
set_option maxRecDepth 20000 in
theorem kX3_text_B74 {X : Cx} {G : Gw} (hG : fw_IsC G) (O : fw_Ok X G cX3_text 3 RX3 8 172 (some .int))  {post : Int32 → Mem → Prop}   {x1 : Int32} {σ : Mem} (h : qX3_text_B74 post x1 σ) : fw_At X G 3 (fw_QI X G post) 74 [(0, .ref (gad G 0)), (1, .int x1)] [] σ := by
  unfold qX3_text_B74 at h
  refine fr_iload_n (pc := 74) O 1 dX3_text_74 rfl rfl ?_
  exact fr_iret (pc := 75) O dX3_text_75 h
def qX3_text_L56 (post : Int32 → Mem → Prop) (k56 : Int32 → Int32 → Mem → Prop) (x1 : Int32) (x2 : Int32) (σ : Mem) : Prop := (((2 : Int32) ≤ x2 → qX3_text_B74 post x1 σ) ∧ (¬ (2 : Int32) ≤ x2 → (vp_in x2 2 ∧ (∀ σ67 : Mem, σ67 = up2 σ 32 x2.toNatClampNeg (0 : Int32) → (∀ y2_68 : Int32, y2_68 = x2 + (1 : Int32) → k56 x1 y2_68 σ67)))))
set_option maxRecDepth 20000 in
theorem kX3_text_L56 {X : Cx} {G : Gw} (hG : fw_IsC G) (O : fw_Ok X G cX3_text 3 RX3 8 172 (some .int))  {post : Int32 → Mem → Prop} {k56 : Int32 → Int32 → Mem → Prop}  (hk56 : ∀ (x1 : Int32) (x2 : Int32) (σ : Mem), k56 x1 x2 σ → fw_At X G 3 (fw_QI X G post) 56 [(0, .ref (gad G 0)), (1, .int x1), (2, .int x2)] [] σ) {x1 : Int32} {x2 : Int32} {σ : Mem} (h : qX3_text_L56 post k56 x1 x2 σ) : fw_At X G 3 (fw_QI X G post) 56 [(0, .ref (gad G 0)), (1, .int x1), (2, .int x2)] [] σ := by
  unfold qX3_text_L56 at h
  refine fr_iload_n (pc := 56) O 2 dX3_text_56 rfl rfl ?_
  refine fr_iconst (pc := 57) O (v := (2 : Int32)) dX3_text_57 (by decide) ?_
  refine fr_icmp_ge (pc := 58) (tgt := 74) O dX3_text_58 (by decide) (fun c_58 => ?_) (fun c_58 => ?_)
  · have h := h.1 c_58
    refine fw_sub (lv' := [(0, .ref (gad G 0)), (1, .int x1)]) [0, 1] rfl ?_
    exact kX3_text_B74 hG O  h
  · have h := h.2 c_58
    refine fr_aload_n (pc := 61) O 0 dX3_text_61 rfl rfl ?_
    refine fr_get (pc := 62) (k := 4) (v := .ref (gad G 32)) O cl_X3 m_194 (sC_0 hG) (by decide) rfl rfl dX3_text_62 ?_
    refine fr_iload_n (pc := 65) O 2 dX3_text_65 rfl rfl ?_
    refine fr_iconst (pc := 66) O (v := (0 : Int32)) dX3_text_66 (by decide) ?_
    have hi_67 := h.1
    have h := h.2
    refine fr_zast (pc := 67) O (sC_32 hG) hi_67 isB_0 dX3_text_67 (fun σ67 e_σ67 => ?_)
    have h := h σ67 e_σ67
    refine fr_iinc (pc := 68) O 2 [1, 2, 0] (w := (1 : Int32)) (lvF := fun y2_68 => [(0, .ref (gad G 0)), (1, .int x1), (2, .int y2_68)]) dX3_text_68 rfl (by decide) (by decide) (fun _ => rfl) (fun y2_68 e_y2_68 => ?_)
    have h := h y2_68 e_y2_68
    refine fr_goto (pc := 71) (tgt := 56) O dX3_text_71 (by decide) ?_
    exact hk56 _ _ _ h
set_option maxRecDepth 20000 in
theorem kX3_text_L56w {X : Cx} {G : Gw} (hG : fw_IsC G) (O : fw_Ok X G cX3_text 3 RX3 8 172 (some .int))  {post : Int32 → Mem → Prop}   {n9 : Nat} {x1 : Int32} {x2 : Int32} {σ : Mem} (h : it2 (qX3_text_L56 post) n9 x1 x2 σ) : fw_At X G 3 (fw_QI X G post) 56 [(0, .ref (gad G 0)), (1, .int x1), (2, .int x2)] [] σ :=
  it2_walk (T := fun x1 x2 σ => fw_At X G 3 (fw_QI X G post) 56 [(0, .ref (gad G 0)), (1, .int x1), (2, .int x2)] [] σ) (fun k56 hk56 x1 x2 σ h => kX3_text_L56 hG O hk56 h) n9 x1 x2 σ h
def qX3_text  (σ : Mem) (post : Int32 → Mem → Prop) : Prop := (qX2_tell 13 σ (fun r8 σ8 => (∀ σ20 : Mem, σ20 = up2 σ8 0 11 (σ8 33 2) → (∀ σ28 : Mem, σ28 = up2 σ20 33 1 (0 : Int32) → ((¬ (σ28 0 11) = 0 → qX3_text_B74 post r8 σ28) ∧ ((σ28 0 11) = 0 → (qX0_become 1 13 σ28 (fun σ46 => (∀ σ51 : Mem, σ51 = up2 σ46 0 10 (0 : Int32) → ∃ n9, it2 (qX3_text_L56 post) n9 r8 (0 : Int32) σ51)))))))))
set_option maxRecDepth 20000 in
theorem kX3_text {X : Cx} {G : Gw} (hG : fw_IsC G) (O : fw_Ok X G cX3_text 3 RX3 8 172 (some .int))   {σ : Mem} {post : Int32 → Mem → Prop} (h : qX3_text  σ post) : fw_At X G 3 (fw_QI X G post) 0 [(0, .ref (gad G 0))] [] σ := by
  unfold qX3_text at h
  refine fr_aload_n (pc := 0) O 0 dX3_text_0 rfl rfl ?_
  refine fr_get (pc := 1) (k := 5) (v := .ref (gad G 33)) O cl_X3 m_195 (sC_0 hG) (by decide) rfl rfl dX3_text_1 ?_
  refine fr_aload_n (pc := 4) O 0 dX3_text_4 rfl rfl ?_
  refine fr_get (pc := 5) (k := 2) (v := .ref (gad G 13)) O cl_X3 m_192 (sC_0 hG) (by decide) rfl rfl dX3_text_5 ?_
  refine fr_callVI (pc := 8) (st := []) O (tX2_tell X.2.1 hG rg_13 h) mt_X2_tell mv_X2_tell m_252 cl_X2 rfl (sC_33 hG) rfl (by decide) rfl (Nat.le_of_ble_eq_true rfl) dX3_text_8 (fun r8 σ8 h => ?_)
  refine fr_istore_n (pc := 11) O [1, 0] (lv' := [(0, .ref (gad G 0)), (1, .int r8)]) dX3_text_11 rfl (by decide) rfl ?_
  refine fr_aload_n (pc := 12) O 0 dX3_text_12 rfl rfl ?_
  refine fr_aload_n (pc := 13) O 0 dX3_text_13 rfl rfl ?_
  refine fr_get (pc := 14) (k := 5) (v := .ref (gad G 33)) O cl_X3 m_195 (sC_0 hG) (by decide) rfl rfl dX3_text_14 ?_
  refine fr_get (pc := 17) (k := 2) (v := .int (σ8 33 2)) O cl_X2 m_142 (sC_33 hG) (by decide) rfl rfl dX3_text_17 ?_
  refine fr_put (pc := 20) (k := 11) O cl_X3 m_201 (sC_0 hG) (by decide) rfl rfl rfl rfl (fun _ => Nat.le_of_ble_eq_true rfl) (fun _ => rfl) dX3_text_20 (fun σ20 e_σ20 => ?_)
  have h := h σ20 e_σ20
  refine fr_aload_n (pc := 23) O 0 dX3_text_23 rfl rfl ?_
  refine fr_get (pc := 24) (k := 5) (v := .ref (gad G 33)) O cl_X3 m_195 (sC_0 hG) (by decide) rfl rfl dX3_text_24 ?_
  refine fr_iconst (pc := 27) O (v := (0 : Int32)) dX3_text_27 (by decide) ?_
  refine fr_put (pc := 28) (k := 1) O cl_X2 m_140 (sC_33 hG) (by decide) rfl rfl rfl rfl (fun _ => Nat.le_of_ble_eq_true rfl) (fun _ => rfl) dX3_text_28 (fun σ28 e_σ28 => ?_)
  have h := h σ28 e_σ28
  refine fr_aload_n (pc := 31) O 0 dX3_text_31 rfl rfl ?_
  refine fr_get (pc := 32) (k := 11) (v := .int (σ28 0 11)) O cl_X3 m_201 (sC_0 hG) (by decide) rfl rfl dX3_text_32 ?_
  refine fr_if_ne (pc := 35) (tgt := 74) O dX3_text_35 (by decide) (fun c_35 => ?_) (fun c_35 => ?_)
  · have h := h.1 c_35
    exact kX3_text_B74 hG O  h
  · have h := h.2 c_35
    refine fr_aload_n (pc := 38) O 0 dX3_text_38 rfl rfl ?_
    refine fr_get (pc := 39) (k := 0) (v := .ref (gad G 1)) O cl_X3 m_190 (sC_0 hG) (by decide) rfl rfl dX3_text_39 ?_
    refine fr_aload_n (pc := 42) O 0 dX3_text_42 rfl rfl ?_
    refine fr_get (pc := 43) (k := 2) (v := .ref (gad G 13)) O cl_X3 m_192 (sC_0 hG) (by decide) rfl rfl dX3_text_43 ?_
    refine fr_callVV (pc := 46) (st := []) O (tX0_become X.2.1 hG rg_1 rg_13 h) mt_X0_become mv_X0_become m_385 cl_X0 rfl (sC_rig hG rg_1) rfl (by decide) rfl (Nat.le_of_ble_eq_true rfl) dX3_text_46 (fun σ46 h => ?_)
    refine fr_aload_n (pc := 49) O 0 dX3_text_49 rfl rfl ?_
    refine fr_iconst (pc := 50) O (v := (0 : Int32)) dX3_text_50 (by decide) ?_
    refine fr_put (pc := 51) (k := 10) O cl_X3 m_200 (sC_0 hG) (by decide) rfl rfl rfl rfl (fun _ => Nat.le_of_ble_eq_true rfl) (fun _ => rfl) dX3_text_51 (fun σ51 e_σ51 => ?_)
    have h := h σ51 e_σ51
    refine fr_iconst (pc := 54) O (v := (0 : Int32)) dX3_text_54 (by decide) ?_
    refine fr_istore_n (pc := 55) O [1, 2, 0] (lv' := [(0, .ref (gad G 0)), (1, .int r8), (2, .int (0 : Int32))]) dX3_text_55 rfl (by decide) rfl ?_
    obtain ⟨n9, h⟩ := h
    exact kX3_text_L56w hG O  h
theorem tX3_text (l : Launch) {G : Gw} (hG : fw_IsC G)   {σ : Mem} {post : Int32 → Mem → Prop} (h : qX3_text  σ post) : fw_CI l G yX3_text cX3_text 3 .int 8 172 [.ref (gad G 0)] σ post := fw_ofI (sok_C hG) (by decide) (Nat.le_of_ble_eq_true rfl) (fun X O => kX3_text hG O  h)
def qX3_fault  (σ : Mem) (post : Int32 → Mem → Prop) : Prop := post (σ 0 11) σ
set_option maxRecDepth 20000 in
theorem kX3_fault {X : Cx} {G : Gw} (hG : fw_IsC G) (O : fw_Ok X G cX3_fault 1 RX3 0 0 (some .int))   {σ : Mem} {post : Int32 → Mem → Prop} (h : qX3_fault  σ post) : fw_At X G 1 (fw_QI X G post) 0 [(0, .ref (gad G 0))] [] σ := by
  unfold qX3_fault at h
  refine fr_aload_n (pc := 0) O 0 dX3_fault_0 rfl rfl ?_
  refine fr_get (pc := 1) (k := 11) (v := .int (σ 0 11)) O cl_X3 m_201 (sC_0 hG) (by decide) rfl rfl dX3_fault_1 ?_
  exact fr_iret (pc := 4) O dX3_fault_4 h
theorem tX3_fault (l : Launch) {G : Gw} (hG : fw_IsC G)   {σ : Mem} {post : Int32 → Mem → Prop} (h : qX3_fault  σ post) : fw_CI l G yX3_fault cX3_fault 1 .int 0 0 [.ref (gad G 0)] σ post := fw_ofI (sok_C hG) (by decide) (Nat.le_of_ble_eq_true rfl) (fun X O => kX3_fault hG O  h)
def qX3_rule_B138 (a1 : Int32) (post : Int32 → Mem → Prop) (s0 : Int32) (σ : Mem) : Prop := post s0 σ
set_option maxRecDepth 20000 in
theorem kX3_rule_B138 {X : Cx} {G : Gw} (hG : fw_IsC G) (O : fw_Ok X G cX3_rule 2 RX3 2 41 (some .int)) {a1 : Int32} {post : Int32 → Mem → Prop}   {s0 : Int32} {σ : Mem} (h : qX3_rule_B138 a1 post s0 σ) : fw_At X G 2 (fw_QI X G post) 138 [(0, .ref (gad G 0)), (1, .int a1)] [.int s0] σ := by
  unfold qX3_rule_B138 at h
  exact fr_iret (pc := 138) O dX3_rule_138 h
def qX3_rule (a1 : Int32) (σ : Mem) (post : Int32 → Mem → Prop) : Prop := ((a1 = (0 : Int32) → post (σ 1 2) σ) ∧ (¬ a1 = (0 : Int32) → ((a1 = (1 : Int32) → post (σ 1 7) σ) ∧ (¬ a1 = (1 : Int32) → ((a1 = (2 : Int32) → post (σ 1 9) σ) ∧ (¬ a1 = (2 : Int32) → ((a1 = (3 : Int32) → post (σ 1 10) σ) ∧ (¬ a1 = (3 : Int32) → ((a1 = (4 : Int32) → post (σ 1 11) σ) ∧ (¬ a1 = (4 : Int32) → ((a1 = (5 : Int32) → post (σ 1 0) σ) ∧ (¬ a1 = (5 : Int32) → ((a1 = (6 : Int32) → post (σ 1 1) σ) ∧ (¬ a1 = (6 : Int32) → ((a1 = (7 : Int32) → (qX0_shaftSpeed 1 σ (fun r112 σ112 => post r112 σ112))) ∧ (¬ a1 = (7 : Int32) → ((a1 = (8 : Int32) → (((σ 1 7) ≤ 0 → qX3_rule_B138 a1 post (-4 : Int32) σ) ∧ (¬ (σ 1 7) ≤ 0 → (qX0_dueAct 1 σ (fun r130 σ130 => qX3_rule_B138 a1 post r130 σ130))))) ∧ (¬ a1 = (8 : Int32) → post (-1 : Int32) σ))))))))))))))))))
set_option maxRecDepth 20000 in
theorem kX3_rule {X : Cx} {G : Gw} (hG : fw_IsC G) (O : fw_Ok X G cX3_rule 2 RX3 2 41 (some .int)) {a1 : Int32}  {σ : Mem} {post : Int32 → Mem → Prop} (h : qX3_rule a1 σ post) : fw_At X G 2 (fw_QI X G post) 0 [(0, .ref (gad G 0)), (1, .int a1)] [] σ := by
  unfold qX3_rule at h
  refine fr_iload_n (pc := 0) O 1 dX3_rule_0 rfl rfl ?_
  by_cases e1_0 : a1 = (0 : Int32)
  · refine fr_tabIn (pc := 1) (tgt := 52) (off := 51) O dX3_rule_1 (by rw [e1_0]; decide) ?_
    have h := h.1 e1_0
    refine fr_aload_n (pc := 52) O 0 dX3_rule_52 rfl rfl ?_
    refine fr_get (pc := 53) (k := 0) (v := .ref (gad G 1)) O cl_X3 m_190 (sC_0 hG) (by decide) rfl rfl dX3_rule_53 ?_
    refine fr_get (pc := 56) (k := 2) (v := .int (σ 1 2)) O cl_X0 m_80 (sC_rig hG rg_1) (by decide) rfl rfl dX3_rule_56 ?_
    exact fr_iret (pc := 59) O dX3_rule_59 h
  · have h := h.2 e1_0
    by_cases e1_1 : a1 = (1 : Int32)
    · refine fr_tabIn (pc := 1) (tgt := 60) (off := 59) O dX3_rule_1 (by rw [e1_1]; decide) ?_
      have h := h.1 e1_1
      refine fr_aload_n (pc := 60) O 0 dX3_rule_60 rfl rfl ?_
      refine fr_get (pc := 61) (k := 0) (v := .ref (gad G 1)) O cl_X3 m_190 (sC_0 hG) (by decide) rfl rfl dX3_rule_61 ?_
      refine fr_get (pc := 64) (k := 7) (v := .int (σ 1 7)) O cl_X0 m_91 (sC_rig hG rg_1) (by decide) rfl rfl dX3_rule_64 ?_
      exact fr_iret (pc := 67) O dX3_rule_67 h
    · have h := h.2 e1_1
      by_cases e1_2 : a1 = (2 : Int32)
      · refine fr_tabIn (pc := 1) (tgt := 68) (off := 67) O dX3_rule_1 (by rw [e1_2]; decide) ?_
        have h := h.1 e1_2
        refine fr_aload_n (pc := 68) O 0 dX3_rule_68 rfl rfl ?_
        refine fr_get (pc := 69) (k := 0) (v := .ref (gad G 1)) O cl_X3 m_190 (sC_0 hG) (by decide) rfl rfl dX3_rule_69 ?_
        refine fr_get (pc := 72) (k := 9) (v := .int (σ 1 9)) O cl_X0 m_96 (sC_rig hG rg_1) (by decide) rfl rfl dX3_rule_72 ?_
        exact fr_iret (pc := 75) O dX3_rule_75 h
      · have h := h.2 e1_2
        by_cases e1_3 : a1 = (3 : Int32)
        · refine fr_tabIn (pc := 1) (tgt := 76) (off := 75) O dX3_rule_1 (by rw [e1_3]; decide) ?_
          have h := h.1 e1_3
          refine fr_aload_n (pc := 76) O 0 dX3_rule_76 rfl rfl ?_
          refine fr_get (pc := 77) (k := 0) (v := .ref (gad G 1)) O cl_X3 m_190 (sC_0 hG) (by decide) rfl rfl dX3_rule_77 ?_
          refine fr_get (pc := 80) (k := 10) (v := .int (σ 1 10)) O cl_X0 m_98 (sC_rig hG rg_1) (by decide) rfl rfl dX3_rule_80 ?_
          exact fr_iret (pc := 83) O dX3_rule_83 h
        · have h := h.2 e1_3
          by_cases e1_4 : a1 = (4 : Int32)
          · refine fr_tabIn (pc := 1) (tgt := 84) (off := 83) O dX3_rule_1 (by rw [e1_4]; decide) ?_
            have h := h.1 e1_4
            refine fr_aload_n (pc := 84) O 0 dX3_rule_84 rfl rfl ?_
            refine fr_get (pc := 85) (k := 0) (v := .ref (gad G 1)) O cl_X3 m_190 (sC_0 hG) (by decide) rfl rfl dX3_rule_85 ?_
            refine fr_get (pc := 88) (k := 11) (v := .int (σ 1 11)) O cl_X0 m_100 (sC_rig hG rg_1) (by decide) rfl rfl dX3_rule_88 ?_
            exact fr_iret (pc := 91) O dX3_rule_91 h
          · have h := h.2 e1_4
            by_cases e1_5 : a1 = (5 : Int32)
            · refine fr_tabIn (pc := 1) (tgt := 92) (off := 91) O dX3_rule_1 (by rw [e1_5]; decide) ?_
              have h := h.1 e1_5
              refine fr_aload_n (pc := 92) O 0 dX3_rule_92 rfl rfl ?_
              refine fr_get (pc := 93) (k := 0) (v := .ref (gad G 1)) O cl_X3 m_190 (sC_0 hG) (by decide) rfl rfl dX3_rule_93 ?_
              refine fr_get (pc := 96) (k := 0) (v := .int (σ 1 0)) O cl_X0 m_75 (sC_rig hG rg_1) (by decide) rfl rfl dX3_rule_96 ?_
              exact fr_iret (pc := 99) O dX3_rule_99 h
            · have h := h.2 e1_5
              by_cases e1_6 : a1 = (6 : Int32)
              · refine fr_tabIn (pc := 1) (tgt := 100) (off := 99) O dX3_rule_1 (by rw [e1_6]; decide) ?_
                have h := h.1 e1_6
                refine fr_aload_n (pc := 100) O 0 dX3_rule_100 rfl rfl ?_
                refine fr_get (pc := 101) (k := 0) (v := .ref (gad G 1)) O cl_X3 m_190 (sC_0 hG) (by decide) rfl rfl dX3_rule_101 ?_
                refine fr_get (pc := 104) (k := 1) (v := .int (σ 1 1)) O cl_X0 m_78 (sC_rig hG rg_1) (by decide) rfl rfl dX3_rule_104 ?_
                exact fr_iret (pc := 107) O dX3_rule_107 h
              · have h := h.2 e1_6
                by_cases e1_7 : a1 = (7 : Int32)
                · refine fr_tabIn (pc := 1) (tgt := 108) (off := 107) O dX3_rule_1 (by rw [e1_7]; decide) ?_
                  have h := h.1 e1_7
                  refine fr_aload_n (pc := 108) O 0 dX3_rule_108 rfl rfl ?_
                  refine fr_get (pc := 109) (k := 0) (v := .ref (gad G 1)) O cl_X3 m_190 (sC_0 hG) (by decide) rfl rfl dX3_rule_109 ?_
                  refine fr_callVI (pc := 112) (st := []) O (tX0_shaftSpeed X.2.1 hG rg_1 h) mt_X0_shaftSpeed mv_X0_shaftSpeed m_398 cl_X0 rfl (sC_rig hG rg_1) rfl (by decide) rfl (Nat.le_of_ble_eq_true rfl) dX3_rule_112 (fun r112 σ112 h => ?_)
                  exact fr_iret (pc := 115) O dX3_rule_115 h
                · have h := h.2 e1_7
                  by_cases e1_8 : a1 = (8 : Int32)
                  · refine fr_tabIn (pc := 1) (tgt := 116) (off := 115) O dX3_rule_1 (by rw [e1_8]; decide) ?_
                    have h := h.1 e1_8
                    refine fr_aload_n (pc := 116) O 0 dX3_rule_116 rfl rfl ?_
                    refine fr_get (pc := 117) (k := 0) (v := .ref (gad G 1)) O cl_X3 m_190 (sC_0 hG) (by decide) rfl rfl dX3_rule_117 ?_
                    refine fr_get (pc := 120) (k := 7) (v := .int (σ 1 7)) O cl_X0 m_91 (sC_rig hG rg_1) (by decide) rfl rfl dX3_rule_120 ?_
                    refine fr_if_le (pc := 123) (tgt := 136) O dX3_rule_123 (by decide) (fun c_123 => ?_) (fun c_123 => ?_)
                    · have h := h.1 c_123
                      refine fr_bipush (pc := 136) O (v := (-4 : Int32)) dX3_rule_136 (by decide) ?_
                      exact kX3_rule_B138 hG O  h
                    · have h := h.2 c_123
                      refine fr_aload_n (pc := 126) O 0 dX3_rule_126 rfl rfl ?_
                      refine fr_get (pc := 127) (k := 0) (v := .ref (gad G 1)) O cl_X3 m_190 (sC_0 hG) (by decide) rfl rfl dX3_rule_127 ?_
                      refine fr_callVI (pc := 130) (st := []) O (tX0_dueAct X.2.1 hG rg_1 h) mt_X0_dueAct mv_X0_dueAct m_405 cl_X0 rfl (sC_rig hG rg_1) rfl (by decide) rfl (Nat.le_of_ble_eq_true rfl) dX3_rule_130 (fun r130 σ130 h => ?_)
                      refine fr_goto (pc := 133) (tgt := 138) O dX3_rule_133 (by decide) ?_
                      exact kX3_rule_B138 hG O  h
                  · have h := h.2 e1_8
                    have n0 := lv_neT e1_0 (show ((0 : Int32)).toInt = 0 by decide)
                    have n1 := lv_neT e1_1 (show ((1 : Int32)).toInt = 1 by decide)
                    have n2 := lv_neT e1_2 (show ((2 : Int32)).toInt = 2 by decide)
                    have n3 := lv_neT e1_3 (show ((3 : Int32)).toInt = 3 by decide)
                    have n4 := lv_neT e1_4 (show ((4 : Int32)).toInt = 4 by decide)
                    have n5 := lv_neT e1_5 (show ((5 : Int32)).toInt = 5 by decide)
                    have n6 := lv_neT e1_6 (show ((6 : Int32)).toInt = 6 by decide)
                    have n7 := lv_neT e1_7 (show ((7 : Int32)).toInt = 7 by decide)
                    have n8 := lv_neT e1_8 (show ((8 : Int32)).toInt = 8 by decide)
                    refine fr_tabOut (pc := 1) (tgt := 139) O dX3_rule_1 (by omega) (by decide) ?_
                    refine fr_iconst (pc := 139) O (v := (-1 : Int32)) dX3_rule_139 (by decide) ?_
                    exact fr_iret (pc := 140) O dX3_rule_140 h
theorem tX3_rule (l : Launch) {G : Gw} (hG : fw_IsC G) {a1 : Int32}  {σ : Mem} {post : Int32 → Mem → Prop} (h : qX3_rule a1 σ post) : fw_CI l G yX3_rule cX3_rule 2 .int 2 41 [.ref (gad G 0), .int a1] σ post := fw_ofI (sok_C hG) (by decide) (Nat.le_of_ble_eq_true rfl) (fun X O => kX3_rule hG O  h)
def qX3_wheel (a1 : Int32) (a2 : Int32) (σ : Mem) (post : Int32 → Mem → Prop) : Prop := (qX0_hasWheel 1 a1 σ (fun r5 σ5 => ((¬ r5 = 0 → ((a2 = (0 : Int32) → (vp_in a1 4 ∧ post (σ5 2 a1.toNatClampNeg) σ5)) ∧ (¬ a2 = (0 : Int32) → ((a2 = (1 : Int32) → (vp_in a1 4 ∧ post (σ5 3 a1.toNatClampNeg) σ5)) ∧ (¬ a2 = (1 : Int32) → ((a2 = (2 : Int32) → (vp_in a1 4 ∧ post (σ5 4 a1.toNatClampNeg) σ5)) ∧ (¬ a2 = (2 : Int32) → ((a2 = (3 : Int32) → (vp_in a1 4 ∧ post (σ5 5 a1.toNatClampNeg) σ5)) ∧ (¬ a2 = (3 : Int32) → ((a2 = (4 : Int32) → (vp_in a1 4 ∧ (qX3_quotient (σ5 5 a1.toNatClampNeg) (σ5 3 a1.toNatClampNeg) σ5 (fun r110 σ110 => post r110 σ110)))) ∧ (¬ a2 = (4 : Int32) → ((a2 = (5 : Int32) → (qX0_joinedSwing 1 a1 σ5 (fun r119 σ119 => post r119 σ119))) ∧ (¬ a2 = (5 : Int32) → post (-1 : Int32) σ5))))))))))))) ∧ (r5 = 0 → post (-1 : Int32) σ5))))
set_option maxRecDepth 20000 in
theorem kX3_wheel {X : Cx} {G : Gw} (hG : fw_IsC G) (O : fw_Ok X G cX3_wheel 3 RX3 2 44 (some .int)) {a1 : Int32} {a2 : Int32}  {σ : Mem} {post : Int32 → Mem → Prop} (h : qX3_wheel a1 a2 σ post) : fw_At X G 3 (fw_QI X G post) 0 [(0, .ref (gad G 0)), (1, .int a1), (2, .int a2)] [] σ := by
  unfold qX3_wheel at h
  refine fr_aload_n (pc := 0) O 0 dX3_wheel_0 rfl rfl ?_
  refine fr_get (pc := 1) (k := 0) (v := .ref (gad G 1)) O cl_X3 m_190 (sC_0 hG) (by decide) rfl rfl dX3_wheel_1 ?_
  refine fr_iload_n (pc := 4) O 1 dX3_wheel_4 rfl rfl ?_
  refine fr_callVI (pc := 5) (st := []) O (tX0_hasWheel X.2.1 hG rg_1 h) mt_X0_hasWheel mv_X0_hasWheel m_417 cl_X0 rfl (sC_rig hG rg_1) rfl (by decide) rfl (Nat.le_of_ble_eq_true rfl) dX3_wheel_5 (fun r5 σ5 h => ?_)
  refine fr_if_ne (pc := 8) (tgt := 13) O dX3_wheel_8 (by decide) (fun c_8 => ?_) (fun c_8 => ?_)
  · have h := h.1 c_8
    refine fr_iload_n (pc := 13) O 2 dX3_wheel_13 rfl rfl ?_
    by_cases e14_0 : a2 = (0 : Int32)
    · refine fr_tabIn (pc := 14) (tgt := 52) (off := 38) O dX3_wheel_14 (by rw [e14_0]; decide) ?_
      have h := h.1 e14_0
      refine fr_aload_n (pc := 52) O 0 dX3_wheel_52 rfl rfl ?_
      refine fr_get (pc := 53) (k := 0) (v := .ref (gad G 1)) O cl_X3 m_190 (sC_0 hG) (by decide) rfl rfl dX3_wheel_53 ?_
      refine fr_get (pc := 56) (k := 3) (v := .ref (gad G 2)) O cl_X0 m_83 (sC_rig hG rg_1) (by decide) rfl rfl dX3_wheel_56 ?_
      refine fr_iload_n (pc := 59) O 1 dX3_wheel_59 rfl rfl ?_
      have hi_60 := h.1
      have h := h.2
      refine fr_iald (pc := 60) O (sC_r1 hG rg_1) hi_60 dX3_wheel_60 ?_
      exact fr_iret (pc := 61) O dX3_wheel_61 h
    · have h := h.2 e14_0
      by_cases e14_1 : a2 = (1 : Int32)
      · refine fr_tabIn (pc := 14) (tgt := 62) (off := 48) O dX3_wheel_14 (by rw [e14_1]; decide) ?_
        have h := h.1 e14_1
        refine fr_aload_n (pc := 62) O 0 dX3_wheel_62 rfl rfl ?_
        refine fr_get (pc := 63) (k := 0) (v := .ref (gad G 1)) O cl_X3 m_190 (sC_0 hG) (by decide) rfl rfl dX3_wheel_63 ?_
        refine fr_get (pc := 66) (k := 4) (v := .ref (gad G 3)) O cl_X0 m_85 (sC_rig hG rg_1) (by decide) rfl rfl dX3_wheel_66 ?_
        refine fr_iload_n (pc := 69) O 1 dX3_wheel_69 rfl rfl ?_
        have hi_70 := h.1
        have h := h.2
        refine fr_iald (pc := 70) O (sC_r2 hG rg_1) hi_70 dX3_wheel_70 ?_
        exact fr_iret (pc := 71) O dX3_wheel_71 h
      · have h := h.2 e14_1
        by_cases e14_2 : a2 = (2 : Int32)
        · refine fr_tabIn (pc := 14) (tgt := 72) (off := 58) O dX3_wheel_14 (by rw [e14_2]; decide) ?_
          have h := h.1 e14_2
          refine fr_aload_n (pc := 72) O 0 dX3_wheel_72 rfl rfl ?_
          refine fr_get (pc := 73) (k := 0) (v := .ref (gad G 1)) O cl_X3 m_190 (sC_0 hG) (by decide) rfl rfl dX3_wheel_73 ?_
          refine fr_get (pc := 76) (k := 5) (v := .ref (gad G 4)) O cl_X0 m_87 (sC_rig hG rg_1) (by decide) rfl rfl dX3_wheel_76 ?_
          refine fr_iload_n (pc := 79) O 1 dX3_wheel_79 rfl rfl ?_
          have hi_80 := h.1
          have h := h.2
          refine fr_iald (pc := 80) O (sC_r3 hG rg_1) hi_80 dX3_wheel_80 ?_
          exact fr_iret (pc := 81) O dX3_wheel_81 h
        · have h := h.2 e14_2
          by_cases e14_3 : a2 = (3 : Int32)
          · refine fr_tabIn (pc := 14) (tgt := 82) (off := 68) O dX3_wheel_14 (by rw [e14_3]; decide) ?_
            have h := h.1 e14_3
            refine fr_aload_n (pc := 82) O 0 dX3_wheel_82 rfl rfl ?_
            refine fr_get (pc := 83) (k := 0) (v := .ref (gad G 1)) O cl_X3 m_190 (sC_0 hG) (by decide) rfl rfl dX3_wheel_83 ?_
            refine fr_get (pc := 86) (k := 6) (v := .ref (gad G 5)) O cl_X0 m_89 (sC_rig hG rg_1) (by decide) rfl rfl dX3_wheel_86 ?_
            refine fr_iload_n (pc := 89) O 1 dX3_wheel_89 rfl rfl ?_
            have hi_90 := h.1
            have h := h.2
            refine fr_iald (pc := 90) O (sC_r4 hG rg_1) hi_90 dX3_wheel_90 ?_
            exact fr_iret (pc := 91) O dX3_wheel_91 h
          · have h := h.2 e14_3
            by_cases e14_4 : a2 = (4 : Int32)
            · refine fr_tabIn (pc := 14) (tgt := 92) (off := 78) O dX3_wheel_14 (by rw [e14_4]; decide) ?_
              have h := h.1 e14_4
              refine fr_aload_n (pc := 92) O 0 dX3_wheel_92 rfl rfl ?_
              refine fr_get (pc := 93) (k := 0) (v := .ref (gad G 1)) O cl_X3 m_190 (sC_0 hG) (by decide) rfl rfl dX3_wheel_93 ?_
              refine fr_get (pc := 96) (k := 6) (v := .ref (gad G 5)) O cl_X0 m_89 (sC_rig hG rg_1) (by decide) rfl rfl dX3_wheel_96 ?_
              refine fr_iload_n (pc := 99) O 1 dX3_wheel_99 rfl rfl ?_
              have hi_100 := h.1
              have h := h.2
              refine fr_iald (pc := 100) O (sC_r4 hG rg_1) hi_100 dX3_wheel_100 ?_
              refine fr_aload_n (pc := 101) O 0 dX3_wheel_101 rfl rfl ?_
              refine fr_get (pc := 102) (k := 0) (v := .ref (gad G 1)) O cl_X3 m_190 (sC_0 hG) (by decide) rfl rfl dX3_wheel_102 ?_
              refine fr_get (pc := 105) (k := 4) (v := .ref (gad G 3)) O cl_X0 m_85 (sC_rig hG rg_1) (by decide) rfl rfl dX3_wheel_105 ?_
              refine fr_iload_n (pc := 108) O 1 dX3_wheel_108 rfl rfl ?_
              refine fr_iald (pc := 109) O (sC_r2 hG rg_1) hi_100 dX3_wheel_109 ?_
              refine fr_callSI (pc := 110) (st := []) O (tX3_quotient X.2.1 hG  h) mt_X3_quotient m_403 m_421 rfl (by decide) rfl (Nat.le_of_ble_eq_true rfl) dX3_wheel_110 (fun r110 σ110 h => ?_)
              exact fr_iret (pc := 113) O dX3_wheel_113 h
            · have h := h.2 e14_4
              by_cases e14_5 : a2 = (5 : Int32)
              · refine fr_tabIn (pc := 14) (tgt := 114) (off := 100) O dX3_wheel_14 (by rw [e14_5]; decide) ?_
                have h := h.1 e14_5
                refine fr_aload_n (pc := 114) O 0 dX3_wheel_114 rfl rfl ?_
                refine fr_get (pc := 115) (k := 0) (v := .ref (gad G 1)) O cl_X3 m_190 (sC_0 hG) (by decide) rfl rfl dX3_wheel_115 ?_
                refine fr_iload_n (pc := 118) O 1 dX3_wheel_118 rfl rfl ?_
                refine fr_callVI (pc := 119) (st := []) O (tX0_joinedSwing X.2.1 hG rg_1 h) mt_X0_joinedSwing mv_X0_joinedSwing m_422 cl_X0 rfl (sC_rig hG rg_1) rfl (by decide) rfl (Nat.le_of_ble_eq_true rfl) dX3_wheel_119 (fun r119 σ119 h => ?_)
                exact fr_iret (pc := 122) O dX3_wheel_122 h
              · have h := h.2 e14_5
                have n0 := lv_neT e14_0 (show ((0 : Int32)).toInt = 0 by decide)
                have n1 := lv_neT e14_1 (show ((1 : Int32)).toInt = 1 by decide)
                have n2 := lv_neT e14_2 (show ((2 : Int32)).toInt = 2 by decide)
                have n3 := lv_neT e14_3 (show ((3 : Int32)).toInt = 3 by decide)
                have n4 := lv_neT e14_4 (show ((4 : Int32)).toInt = 4 by decide)
                have n5 := lv_neT e14_5 (show ((5 : Int32)).toInt = 5 by decide)
                refine fr_tabOut (pc := 14) (tgt := 123) O dX3_wheel_14 (by omega) (by decide) ?_
                refine fr_iconst (pc := 123) O (v := (-1 : Int32)) dX3_wheel_123 (by decide) ?_
                exact fr_iret (pc := 124) O dX3_wheel_124 h
  · have h := h.2 c_8
    refine fr_iconst (pc := 11) O (v := (-1 : Int32)) dX3_wheel_11 (by decide) ?_
    exact fr_iret (pc := 12) O dX3_wheel_12 h
theorem tX3_wheel (l : Launch) {G : Gw} (hG : fw_IsC G) {a1 : Int32} {a2 : Int32}  {σ : Mem} {post : Int32 → Mem → Prop} (h : qX3_wheel a1 a2 σ post) : fw_CI l G yX3_wheel cX3_wheel 3 .int 2 44 [.ref (gad G 0), .int a1, .int a2] σ post := fw_ofI (sok_C hG) (by decide) (Nat.le_of_ble_eq_true rfl) (fun X O => kX3_wheel hG O  h)
def qX3_act_B24 (a1 : Int32) (post : Int32 → Mem → Prop) (s0 : Int32) (σ : Mem) : Prop := post s0 σ
set_option maxRecDepth 20000 in
theorem kX3_act_B24 {X : Cx} {G : Gw} (hG : fw_IsC G) (O : fw_Ok X G cX3_act 2 RX3 1 21 (some .int)) {a1 : Int32} {post : Int32 → Mem → Prop}   {s0 : Int32} {σ : Mem} (h : qX3_act_B24 a1 post s0 σ) : fw_At X G 2 (fw_QI X G post) 24 [(0, .ref (gad G 0)), (1, .int a1)] [.int s0] σ := by
  unfold qX3_act_B24 at h
  exact fr_iret (pc := 24) O dX3_act_24 h
def qX3_act (a1 : Int32) (σ : Mem) (post : Int32 → Mem → Prop) : Prop := (qX0_hasAct 1 a1 σ (fun r5 σ5 => ((r5 = 0 → qX3_act_B24 a1 post (-1 : Int32) σ5) ∧ (¬ r5 = 0 → (vp_in a1 16 ∧ qX3_act_B24 a1 post (σ5 6 a1.toNatClampNeg) σ5)))))
set_option maxRecDepth 20000 in
theorem kX3_act {X : Cx} {G : Gw} (hG : fw_IsC G) (O : fw_Ok X G cX3_act 2 RX3 1 21 (some .int)) {a1 : Int32}  {σ : Mem} {post : Int32 → Mem → Prop} (h : qX3_act a1 σ post) : fw_At X G 2 (fw_QI X G post) 0 [(0, .ref (gad G 0)), (1, .int a1)] [] σ := by
  unfold qX3_act at h
  refine fr_aload_n (pc := 0) O 0 dX3_act_0 rfl rfl ?_
  refine fr_get (pc := 1) (k := 0) (v := .ref (gad G 1)) O cl_X3 m_190 (sC_0 hG) (by decide) rfl rfl dX3_act_1 ?_
  refine fr_iload_n (pc := 4) O 1 dX3_act_4 rfl rfl ?_
  refine fr_callVI (pc := 5) (st := []) O (tX0_hasAct X.2.1 hG rg_1 h) mt_X0_hasAct mv_X0_hasAct m_436 cl_X0 rfl (sC_rig hG rg_1) rfl (by decide) rfl (Nat.le_of_ble_eq_true rfl) dX3_act_5 (fun r5 σ5 h => ?_)
  refine fr_if_eq (pc := 8) (tgt := 23) O dX3_act_8 (by decide) (fun c_8 => ?_) (fun c_8 => ?_)
  · have h := h.1 c_8
    refine fr_iconst (pc := 23) O (v := (-1 : Int32)) dX3_act_23 (by decide) ?_
    exact kX3_act_B24 hG O  h
  · have h := h.2 c_8
    refine fr_aload_n (pc := 11) O 0 dX3_act_11 rfl rfl ?_
    refine fr_get (pc := 12) (k := 0) (v := .ref (gad G 1)) O cl_X3 m_190 (sC_0 hG) (by decide) rfl rfl dX3_act_12 ?_
    refine fr_get (pc := 15) (k := 8) (v := .ref (gad G 6)) O cl_X0 m_94 (sC_rig hG rg_1) (by decide) rfl rfl dX3_act_15 ?_
    refine fr_iload_n (pc := 18) O 1 dX3_act_18 rfl rfl ?_
    have hi_19 := h.1
    have h := h.2
    refine fr_iald (pc := 19) O (sC_r5 hG rg_1) hi_19 dX3_act_19 ?_
    refine fr_goto (pc := 20) (tgt := 24) O dX3_act_20 (by decide) ?_
    exact kX3_act_B24 hG O  h
theorem tX3_act (l : Launch) {G : Gw} (hG : fw_IsC G) {a1 : Int32}  {σ : Mem} {post : Int32 → Mem → Prop} (h : qX3_act a1 σ post) : fw_CI l G yX3_act cX3_act 2 .int 1 21 [.ref (gad G 0), .int a1] σ post := fw_ofI (sok_C hG) (by decide) (Nat.le_of_ble_eq_true rfl) (fun X O => kX3_act hG O  h)
def qX3_replace (c : Nat) (n : Nat) (a1 : Int32) (a2 : Int32) (σ : Mem) (post : Int32 → Mem → Prop) : Prop := (vp_in a1 n ∧ (∀ y3_3 : Int32, y3_3 = σ c a1.toNatClampNeg → (∀ σ7 : Mem, σ7 = up2 σ c a1.toNatClampNeg a2 → post y3_3 σ7)))
set_option maxRecDepth 20000 in
theorem kX3_replace {X : Cx} {G : Gw} (hG : fw_IsC G) (O : fw_Ok X G cX3_replace 4 RX3 0 0 (some .int)) {c : Nat} {n : Nat} {a1 : Int32} {a2 : Int32} (ha : fw_Ar G .int c n) {σ : Mem} {post : Int32 → Mem → Prop} (h : qX3_replace c n a1 a2 σ post) : fw_At X G 4 (fw_QI X G post) 0 [(0, .ref (gad G c)), (1, .int a1), (2, .int a2)] [] σ := by
  unfold qX3_replace at h
  refine fr_aload_n (pc := 0) O 0 dX3_replace_0 rfl rfl ?_
  refine fr_iload_n (pc := 1) O 1 dX3_replace_1 rfl rfl ?_
  have hi_2 := h.1
  have h := h.2
  refine fr_iald (pc := 2) O ha hi_2 dX3_replace_2 ?_
  refine fr_nm (fun y3_3 e_y3_3 => ?_)
  have h := h y3_3 e_y3_3
  refine fr_istore_n (pc := 3) O [1, 2, 3, 0] (lv' := [(0, .ref (gad G c)), (1, .int a1), (2, .int a2), (3, .int y3_3)]) dX3_replace_3 rfl (by decide) rfl ?_
  refine fr_aload_n (pc := 4) O 0 dX3_replace_4 rfl rfl ?_
  refine fr_iload_n (pc := 5) O 1 dX3_replace_5 rfl rfl ?_
  refine fr_iload_n (pc := 6) O 2 dX3_replace_6 rfl rfl ?_
  refine fr_iast (pc := 7) O ha hi_2 dX3_replace_7 (fun σ7 e_σ7 => ?_)
  have h := h σ7 e_σ7
  refine fr_iload_n (pc := 8) O 3 dX3_replace_8 rfl rfl ?_
  exact fr_iret (pc := 9) O dX3_replace_9 h
theorem tX3_replace (l : Launch) {G : Gw} (hG : fw_IsC G) {c : Nat} {n : Nat} {a1 : Int32} {a2 : Int32} (ha : fw_Ar G .int c n) {σ : Mem} {post : Int32 → Mem → Prop} (h : qX3_replace c n a1 a2 σ post) : fw_CI l G yX3_replace cX3_replace 4 .int 0 0 [.ref (gad G c), .int a1, .int a2] σ post := fw_ofI (sok_C hG) (by decide) (Nat.le_of_ble_eq_true rfl) (fun X O => kX3_replace hG O ha h)
def qX3_alter_B69 (a1 : Int32) (a2 : Int32) (a3 : Int32) (post : Int32 → Mem → Prop) (s0 : Int32) (σ : Mem) : Prop := post s0 σ
set_option maxRecDepth 20000 in
theorem kX3_alter_B69 {X : Cx} {G : Gw} (hG : fw_IsC G) (O : fw_Ok X G cX3_alter 4 RX3 1 23 (some .int)) {a1 : Int32} {a2 : Int32} {a3 : Int32} {post : Int32 → Mem → Prop}   {s0 : Int32} {σ : Mem} (h : qX3_alter_B69 a1 a2 a3 post s0 σ) : fw_At X G 4 (fw_QI X G post) 69 [(0, .ref (gad G 0)), (1, .int a1), (2, .int a2), (3, .int a3)] [.int s0] σ := by
  unfold qX3_alter_B69 at h
  exact fr_iret (pc := 69) O dX3_alter_69 h
def qX3_alter_B96 (a1 : Int32) (a2 : Int32) (a3 : Int32) (post : Int32 → Mem → Prop) (s0 : Int32) (σ : Mem) : Prop := post s0 σ
set_option maxRecDepth 20000 in
theorem kX3_alter_B96 {X : Cx} {G : Gw} (hG : fw_IsC G) (O : fw_Ok X G cX3_alter 4 RX3 1 23 (some .int)) {a1 : Int32} {a2 : Int32} {a3 : Int32} {post : Int32 → Mem → Prop}   {s0 : Int32} {σ : Mem} (h : qX3_alter_B96 a1 a2 a3 post s0 σ) : fw_At X G 4 (fw_QI X G post) 96 [(0, .ref (gad G 0)), (1, .int a1), (2, .int a2), (3, .int a3)] [.int s0] σ := by
  unfold qX3_alter_B96 at h
  exact fr_iret (pc := 96) O dX3_alter_96 h
def qX3_alter_B123 (a1 : Int32) (a2 : Int32) (a3 : Int32) (post : Int32 → Mem → Prop) (s0 : Int32) (σ : Mem) : Prop := post s0 σ
set_option maxRecDepth 20000 in
theorem kX3_alter_B123 {X : Cx} {G : Gw} (hG : fw_IsC G) (O : fw_Ok X G cX3_alter 4 RX3 1 23 (some .int)) {a1 : Int32} {a2 : Int32} {a3 : Int32} {post : Int32 → Mem → Prop}   {s0 : Int32} {σ : Mem} (h : qX3_alter_B123 a1 a2 a3 post s0 σ) : fw_At X G 4 (fw_QI X G post) 123 [(0, .ref (gad G 0)), (1, .int a1), (2, .int a2), (3, .int a3)] [.int s0] σ := by
  unfold qX3_alter_B123 at h
  exact fr_iret (pc := 123) O dX3_alter_123 h
def qX3_alter_B151 (a1 : Int32) (a2 : Int32) (a3 : Int32) (post : Int32 → Mem → Prop) (s0 : Int32) (σ : Mem) : Prop := post s0 σ
set_option maxRecDepth 20000 in
theorem kX3_alter_B151 {X : Cx} {G : Gw} (hG : fw_IsC G) (O : fw_Ok X G cX3_alter 4 RX3 1 23 (some .int)) {a1 : Int32} {a2 : Int32} {a3 : Int32} {post : Int32 → Mem → Prop}   {s0 : Int32} {σ : Mem} (h : qX3_alter_B151 a1 a2 a3 post s0 σ) : fw_At X G 4 (fw_QI X G post) 151 [(0, .ref (gad G 0)), (1, .int a1), (2, .int a2), (3, .int a3)] [.int s0] σ := by
  unfold qX3_alter_B151 at h
  exact fr_iret (pc := 151) O dX3_alter_151 h
def qX3_alter (a1 : Int32) (a2 : Int32) (a3 : Int32) (σ : Mem) (post : Int32 → Mem → Prop) : Prop := (qX0_hasWheel 1 a1 σ (fun r5 σ5 => ((¬ r5 = 0 → ((a2 = (0 : Int32) → (qX3_within a3 (0 : Int32) (3 : Int32) σ5 (fun r47 σ47 => ((r47 = 0 → qX3_alter_B69 a1 a2 a3 post (-1 : Int32) σ47) ∧ (¬ r47 = 0 → (qX3_replace 2 4 a1 a3 σ47 (fun r62 σ62 => qX3_alter_B69 a1 a2 a3 post r62 σ62))))))) ∧ (¬ a2 = (0 : Int32) → ((a2 = (1 : Int32) → (qX3_within a3 (1 : Int32) (20 : Int32) σ5 (fun r74 σ74 => ((r74 = 0 → qX3_alter_B96 a1 a2 a3 post (-1 : Int32) σ74) ∧ (¬ r74 = 0 → (qX3_replace 3 4 a1 a3 σ74 (fun r89 σ89 => qX3_alter_B96 a1 a2 a3 post r89 σ89))))))) ∧ (¬ a2 = (1 : Int32) → ((a2 = (2 : Int32) → (qX3_within a3 (0 : Int32) (9 : Int32) σ5 (fun r101 σ101 => ((r101 = 0 → qX3_alter_B123 a1 a2 a3 post (-1 : Int32) σ101) ∧ (¬ r101 = 0 → (qX3_replace 4 4 a1 a3 σ101 (fun r116 σ116 => qX3_alter_B123 a1 a2 a3 post r116 σ116))))))) ∧ (¬ a2 = (2 : Int32) → ((a2 = (3 : Int32) → (qX3_within a3 (0 : Int32) (9999 : Int32) σ5 (fun r129 σ129 => ((r129 = 0 → qX3_alter_B151 a1 a2 a3 post (-1 : Int32) σ129) ∧ (¬ r129 = 0 → (qX3_replace 5 4 a1 a3 σ129 (fun r144 σ144 => qX3_alter_B151 a1 a2 a3 post r144 σ144))))))) ∧ (¬ a2 = (3 : Int32) → post (-1 : Int32) σ5))))))))) ∧ (r5 = 0 → post (-1 : Int32) σ5))))
set_option maxRecDepth 20000 in
theorem kX3_alter {X : Cx} {G : Gw} (hG : fw_IsC G) (O : fw_Ok X G cX3_alter 4 RX3 1 23 (some .int)) {a1 : Int32} {a2 : Int32} {a3 : Int32}  {σ : Mem} {post : Int32 → Mem → Prop} (h : qX3_alter a1 a2 a3 σ post) : fw_At X G 4 (fw_QI X G post) 0 [(0, .ref (gad G 0)), (1, .int a1), (2, .int a2), (3, .int a3)] [] σ := by
  unfold qX3_alter at h
  refine fr_aload_n (pc := 0) O 0 dX3_alter_0 rfl rfl ?_
  refine fr_get (pc := 1) (k := 0) (v := .ref (gad G 1)) O cl_X3 m_190 (sC_0 hG) (by decide) rfl rfl dX3_alter_1 ?_
  refine fr_iload_n (pc := 4) O 1 dX3_alter_4 rfl rfl ?_
  refine fr_callVI (pc := 5) (st := []) O (tX0_hasWheel X.2.1 hG rg_1 h) mt_X0_hasWheel mv_X0_hasWheel m_417 cl_X0 rfl (sC_rig hG rg_1) rfl (by decide) rfl (Nat.le_of_ble_eq_true rfl) dX3_alter_5 (fun r5 σ5 h => ?_)
  refine fr_if_ne (pc := 8) (tgt := 13) O dX3_alter_8 (by decide) (fun c_8 => ?_) (fun c_8 => ?_)
  · have h := h.1 c_8
    refine fr_iload_n (pc := 13) O 2 dX3_alter_13 rfl rfl ?_
    by_cases e14_0 : a2 = (0 : Int32)
    · refine fr_tabIn (pc := 14) (tgt := 44) (off := 30) O dX3_alter_14 (by rw [e14_0]; decide) ?_
      have h := h.1 e14_0
      refine fr_iload_n (pc := 44) O 3 dX3_alter_44 rfl rfl ?_
      refine fr_iconst (pc := 45) O (v := (0 : Int32)) dX3_alter_45 (by decide) ?_
      refine fr_iconst (pc := 46) O (v := (3 : Int32)) dX3_alter_46 (by decide) ?_
      refine fr_callSI (pc := 47) (st := []) O (tX3_within X.2.1 hG  h) mt_X3_within m_238 m_237 rfl (by decide) rfl (Nat.le_of_ble_eq_true rfl) dX3_alter_47 (fun r47 σ47 h => ?_)
      refine fr_if_eq (pc := 50) (tgt := 68) O dX3_alter_50 (by decide) (fun c_50 => ?_) (fun c_50 => ?_)
      · have h := h.1 c_50
        refine fr_iconst (pc := 68) O (v := (-1 : Int32)) dX3_alter_68 (by decide) ?_
        exact kX3_alter_B69 hG O  h
      · have h := h.2 c_50
        refine fr_aload_n (pc := 53) O 0 dX3_alter_53 rfl rfl ?_
        refine fr_get (pc := 54) (k := 0) (v := .ref (gad G 1)) O cl_X3 m_190 (sC_0 hG) (by decide) rfl rfl dX3_alter_54 ?_
        refine fr_get (pc := 57) (k := 3) (v := .ref (gad G 2)) O cl_X0 m_83 (sC_rig hG rg_1) (by decide) rfl rfl dX3_alter_57 ?_
        refine fr_iload_n (pc := 60) O 1 dX3_alter_60 rfl rfl ?_
        refine fr_iload_n (pc := 61) O 3 dX3_alter_61 rfl rfl ?_
        refine fr_callSI (pc := 62) (st := []) O (tX3_replace X.2.1 hG (sC_r1 hG rg_1) h) mt_X3_replace m_445 m_444 rfl (by decide) rfl (Nat.le_of_ble_eq_true rfl) dX3_alter_62 (fun r62 σ62 h => ?_)
        refine fr_goto (pc := 65) (tgt := 69) O dX3_alter_65 (by decide) ?_
        exact kX3_alter_B69 hG O  h
    · have h := h.2 e14_0
      by_cases e14_1 : a2 = (1 : Int32)
      · refine fr_tabIn (pc := 14) (tgt := 70) (off := 56) O dX3_alter_14 (by rw [e14_1]; decide) ?_
        have h := h.1 e14_1
        refine fr_iload_n (pc := 70) O 3 dX3_alter_70 rfl rfl ?_
        refine fr_iconst (pc := 71) O (v := (1 : Int32)) dX3_alter_71 (by decide) ?_
        refine fr_bipush (pc := 72) O (v := (20 : Int32)) dX3_alter_72 (by decide) ?_
        refine fr_callSI (pc := 74) (st := []) O (tX3_within X.2.1 hG  h) mt_X3_within m_238 m_237 rfl (by decide) rfl (Nat.le_of_ble_eq_true rfl) dX3_alter_74 (fun r74 σ74 h => ?_)
        refine fr_if_eq (pc := 77) (tgt := 95) O dX3_alter_77 (by decide) (fun c_77 => ?_) (fun c_77 => ?_)
        · have h := h.1 c_77
          refine fr_iconst (pc := 95) O (v := (-1 : Int32)) dX3_alter_95 (by decide) ?_
          exact kX3_alter_B96 hG O  h
        · have h := h.2 c_77
          refine fr_aload_n (pc := 80) O 0 dX3_alter_80 rfl rfl ?_
          refine fr_get (pc := 81) (k := 0) (v := .ref (gad G 1)) O cl_X3 m_190 (sC_0 hG) (by decide) rfl rfl dX3_alter_81 ?_
          refine fr_get (pc := 84) (k := 4) (v := .ref (gad G 3)) O cl_X0 m_85 (sC_rig hG rg_1) (by decide) rfl rfl dX3_alter_84 ?_
          refine fr_iload_n (pc := 87) O 1 dX3_alter_87 rfl rfl ?_
          refine fr_iload_n (pc := 88) O 3 dX3_alter_88 rfl rfl ?_
          refine fr_callSI (pc := 89) (st := []) O (tX3_replace X.2.1 hG (sC_r2 hG rg_1) h) mt_X3_replace m_445 m_444 rfl (by decide) rfl (Nat.le_of_ble_eq_true rfl) dX3_alter_89 (fun r89 σ89 h => ?_)
          refine fr_goto (pc := 92) (tgt := 96) O dX3_alter_92 (by decide) ?_
          exact kX3_alter_B96 hG O  h
      · have h := h.2 e14_1
        by_cases e14_2 : a2 = (2 : Int32)
        · refine fr_tabIn (pc := 14) (tgt := 97) (off := 83) O dX3_alter_14 (by rw [e14_2]; decide) ?_
          have h := h.1 e14_2
          refine fr_iload_n (pc := 97) O 3 dX3_alter_97 rfl rfl ?_
          refine fr_iconst (pc := 98) O (v := (0 : Int32)) dX3_alter_98 (by decide) ?_
          refine fr_bipush (pc := 99) O (v := (9 : Int32)) dX3_alter_99 (by decide) ?_
          refine fr_callSI (pc := 101) (st := []) O (tX3_within X.2.1 hG  h) mt_X3_within m_238 m_237 rfl (by decide) rfl (Nat.le_of_ble_eq_true rfl) dX3_alter_101 (fun r101 σ101 h => ?_)
          refine fr_if_eq (pc := 104) (tgt := 122) O dX3_alter_104 (by decide) (fun c_104 => ?_) (fun c_104 => ?_)
          · have h := h.1 c_104
            refine fr_iconst (pc := 122) O (v := (-1 : Int32)) dX3_alter_122 (by decide) ?_
            exact kX3_alter_B123 hG O  h
          · have h := h.2 c_104
            refine fr_aload_n (pc := 107) O 0 dX3_alter_107 rfl rfl ?_
            refine fr_get (pc := 108) (k := 0) (v := .ref (gad G 1)) O cl_X3 m_190 (sC_0 hG) (by decide) rfl rfl dX3_alter_108 ?_
            refine fr_get (pc := 111) (k := 5) (v := .ref (gad G 4)) O cl_X0 m_87 (sC_rig hG rg_1) (by decide) rfl rfl dX3_alter_111 ?_
            refine fr_iload_n (pc := 114) O 1 dX3_alter_114 rfl rfl ?_
            refine fr_iload_n (pc := 115) O 3 dX3_alter_115 rfl rfl ?_
            refine fr_callSI (pc := 116) (st := []) O (tX3_replace X.2.1 hG (sC_r3 hG rg_1) h) mt_X3_replace m_445 m_444 rfl (by decide) rfl (Nat.le_of_ble_eq_true rfl) dX3_alter_116 (fun r116 σ116 h => ?_)
            refine fr_goto (pc := 119) (tgt := 123) O dX3_alter_119 (by decide) ?_
            exact kX3_alter_B123 hG O  h
        · have h := h.2 e14_2
          by_cases e14_3 : a2 = (3 : Int32)
          · refine fr_tabIn (pc := 14) (tgt := 124) (off := 110) O dX3_alter_14 (by rw [e14_3]; decide) ?_
            have h := h.1 e14_3
            refine fr_iload_n (pc := 124) O 3 dX3_alter_124 rfl rfl ?_
            refine fr_iconst (pc := 125) O (v := (0 : Int32)) dX3_alter_125 (by decide) ?_
            refine fr_sipush (pc := 126) O (v := (9999 : Int32)) dX3_alter_126 (by decide) ?_
            refine fr_callSI (pc := 129) (st := []) O (tX3_within X.2.1 hG  h) mt_X3_within m_238 m_237 rfl (by decide) rfl (Nat.le_of_ble_eq_true rfl) dX3_alter_129 (fun r129 σ129 h => ?_)
            refine fr_if_eq (pc := 132) (tgt := 150) O dX3_alter_132 (by decide) (fun c_132 => ?_) (fun c_132 => ?_)
            · have h := h.1 c_132
              refine fr_iconst (pc := 150) O (v := (-1 : Int32)) dX3_alter_150 (by decide) ?_
              exact kX3_alter_B151 hG O  h
            · have h := h.2 c_132
              refine fr_aload_n (pc := 135) O 0 dX3_alter_135 rfl rfl ?_
              refine fr_get (pc := 136) (k := 0) (v := .ref (gad G 1)) O cl_X3 m_190 (sC_0 hG) (by decide) rfl rfl dX3_alter_136 ?_
              refine fr_get (pc := 139) (k := 6) (v := .ref (gad G 5)) O cl_X0 m_89 (sC_rig hG rg_1) (by decide) rfl rfl dX3_alter_139 ?_
              refine fr_iload_n (pc := 142) O 1 dX3_alter_142 rfl rfl ?_
              refine fr_iload_n (pc := 143) O 3 dX3_alter_143 rfl rfl ?_
              refine fr_callSI (pc := 144) (st := []) O (tX3_replace X.2.1 hG (sC_r4 hG rg_1) h) mt_X3_replace m_445 m_444 rfl (by decide) rfl (Nat.le_of_ble_eq_true rfl) dX3_alter_144 (fun r144 σ144 h => ?_)
              refine fr_goto (pc := 147) (tgt := 151) O dX3_alter_147 (by decide) ?_
              exact kX3_alter_B151 hG O  h
          · have h := h.2 e14_3
            have n0 := lv_neT e14_0 (show ((0 : Int32)).toInt = 0 by decide)
            have n1 := lv_neT e14_1 (show ((1 : Int32)).toInt = 1 by decide)
            have n2 := lv_neT e14_2 (show ((2 : Int32)).toInt = 2 by decide)
            have n3 := lv_neT e14_3 (show ((3 : Int32)).toInt = 3 by decide)
            refine fr_tabOut (pc := 14) (tgt := 152) O dX3_alter_14 (by omega) (by decide) ?_
            refine fr_iconst (pc := 152) O (v := (-1 : Int32)) dX3_alter_152 (by decide) ?_
            exact fr_iret (pc := 153) O dX3_alter_153 h
  · have h := h.2 c_8
    refine fr_iconst (pc := 11) O (v := (-1 : Int32)) dX3_alter_11 (by decide) ?_
    exact fr_iret (pc := 12) O dX3_alter_12 h
theorem tX3_alter (l : Launch) {G : Gw} (hG : fw_IsC G) {a1 : Int32} {a2 : Int32} {a3 : Int32}  {σ : Mem} {post : Int32 → Mem → Prop} (h : qX3_alter a1 a2 a3 σ post) : fw_CI l G yX3_alter cX3_alter 4 .int 1 23 [.ref (gad G 0), .int a1, .int a2, .int a3] σ post := fw_ofI (sok_C hG) (by decide) (Nat.le_of_ble_eq_true rfl) (fun X O => kX3_alter hG O  h)
def qX3_shaft (a1 : Int32) (σ : Mem) (post : Int32 → Mem → Prop) : Prop := (qX3_within a1 (1 : Int32) (20 : Int32) σ (fun r4 σ4 => ((¬ r4 = 0 → (∀ y2_19 : Int32, y2_19 = σ4 1 0 → (∀ σ25 : Mem, σ25 = up2 σ4 1 0 a1 → post y2_19 σ25))) ∧ (r4 = 0 → post (-1 : Int32) σ4))))
set_option maxRecDepth 20000 in
theorem kX3_shaft {X : Cx} {G : Gw} (hG : fw_IsC G) (O : fw_Ok X G cX3_shaft 3 RX3 1 22 (some .int)) {a1 : Int32}  {σ : Mem} {post : Int32 → Mem → Prop} (h : qX3_shaft a1 σ post) : fw_At X G 3 (fw_QI X G post) 0 [(0, .ref (gad G 0)), (1, .int a1)] [] σ := by
  unfold qX3_shaft at h
  refine fr_iload_n (pc := 0) O 1 dX3_shaft_0 rfl rfl ?_
  refine fr_iconst (pc := 1) O (v := (1 : Int32)) dX3_shaft_1 (by decide) ?_
  refine fr_bipush (pc := 2) O (v := (20 : Int32)) dX3_shaft_2 (by decide) ?_
  refine fr_callSI (pc := 4) (st := []) O (tX3_within X.2.1 hG  h) mt_X3_within m_238 m_237 rfl (by decide) rfl (Nat.le_of_ble_eq_true rfl) dX3_shaft_4 (fun r4 σ4 h => ?_)
  refine fr_if_ne (pc := 7) (tgt := 12) O dX3_shaft_7 (by decide) (fun c_7 => ?_) (fun c_7 => ?_)
  · have h := h.1 c_7
    refine fr_aload_n (pc := 12) O 0 dX3_shaft_12 rfl rfl ?_
    refine fr_get (pc := 13) (k := 0) (v := .ref (gad G 1)) O cl_X3 m_190 (sC_0 hG) (by decide) rfl rfl dX3_shaft_13 ?_
    refine fr_get (pc := 16) (k := 0) (v := .int (σ4 1 0)) O cl_X0 m_75 (sC_rig hG rg_1) (by decide) rfl rfl dX3_shaft_16 ?_
    refine fr_nm (fun y2_19 e_y2_19 => ?_)
    have h := h y2_19 e_y2_19
    refine fr_istore_n (pc := 19) O [1, 2, 0] (lv' := [(0, .ref (gad G 0)), (1, .int a1), (2, .int y2_19)]) dX3_shaft_19 rfl (by decide) rfl ?_
    refine fr_aload_n (pc := 20) O 0 dX3_shaft_20 rfl rfl ?_
    refine fr_get (pc := 21) (k := 0) (v := .ref (gad G 1)) O cl_X3 m_190 (sC_0 hG) (by decide) rfl rfl dX3_shaft_21 ?_
    refine fr_iload_n (pc := 24) O 1 dX3_shaft_24 rfl rfl ?_
    refine fr_put (pc := 25) (k := 0) O cl_X0 m_75 (sC_rig hG rg_1) (by decide) rfl rfl rfl rfl (fun _ => Nat.le_of_ble_eq_true rfl) (fun _ => rfl) dX3_shaft_25 (fun σ25 e_σ25 => ?_)
    have h := h σ25 e_σ25
    refine fr_iload_n (pc := 28) O 2 dX3_shaft_28 rfl rfl ?_
    exact fr_iret (pc := 29) O dX3_shaft_29 h
  · have h := h.2 c_7
    refine fr_iconst (pc := 10) O (v := (-1 : Int32)) dX3_shaft_10 (by decide) ?_
    exact fr_iret (pc := 11) O dX3_shaft_11 h
theorem tX3_shaft (l : Launch) {G : Gw} (hG : fw_IsC G) {a1 : Int32}  {σ : Mem} {post : Int32 → Mem → Prop} (h : qX3_shaft a1 σ post) : fw_CI l G yX3_shaft cX3_shaft 3 .int 1 22 [.ref (gad G 0), .int a1] σ post := fw_ofI (sok_C hG) (by decide) (Nat.le_of_ble_eq_true rfl) (fun X O => kX3_shaft hG O  h)
def qX3_put_B29 (a1 : Int32) (a2 : Int32) (a3 : Int32) (post : Int32 → Mem → Prop) (σ : Mem) : Prop := post (-1 : Int32) σ
set_option maxRecDepth 20000 in
theorem kX3_put_B29 {X : Cx} {G : Gw} (hG : fw_IsC G) (O : fw_Ok X G cX3_put 4 RX3 1 23 (some .int)) {a1 : Int32} {a2 : Int32} {a3 : Int32} {post : Int32 → Mem → Prop}    {σ : Mem} (h : qX3_put_B29 a1 a2 a3 post σ) : fw_At X G 4 (fw_QI X G post) 29 [(0, .ref (gad G 0)), (1, .int a1), (2, .int a2), (3, .int a3)] [] σ := by
  unfold qX3_put_B29 at h
  refine fr_iconst (pc := 29) O (v := (-1 : Int32)) dX3_put_29 (by decide) ?_
  exact fr_iret (pc := 30) O dX3_put_30 h
def qX3_put (a1 : Int32) (a2 : Int32) (a3 : Int32) (σ : Mem) (post : Int32 → Mem → Prop) : Prop := (qX3_within a1 (0 : Int32) (3 : Int32) σ (fun r3 σ3 => ((r3 = 0 → qX3_put_B29 a1 a2 a3 post σ3) ∧ (¬ r3 = 0 → (qX3_within a2 (1 : Int32) (20 : Int32) σ3 (fun r13 σ13 => ((r13 = 0 → qX3_put_B29 a1 a2 a3 post σ13) ∧ (¬ r13 = 0 → (qX3_within a3 (0 : Int32) (9 : Int32) σ13 (fun r23 σ23 => ((¬ r23 = 0 → (qX0_appendWheel 1 a1 a2 a3 σ23 (fun r38 σ38 => post r38 σ38))) ∧ (r23 = 0 → qX3_put_B29 a1 a2 a3 post σ23))))))))))))
set_option maxRecDepth 20000 in
theorem kX3_put {X : Cx} {G : Gw} (hG : fw_IsC G) (O : fw_Ok X G cX3_put 4 RX3 1 23 (some .int)) {a1 : Int32} {a2 : Int32} {a3 : Int32}  {σ : Mem} {post : Int32 → Mem → Prop} (h : qX3_put a1 a2 a3 σ post) : fw_At X G 4 (fw_QI X G post) 0 [(0, .ref (gad G 0)), (1, .int a1), (2, .int a2), (3, .int a3)] [] σ := by
  unfold qX3_put at h
  refine fr_iload_n (pc := 0) O 1 dX3_put_0 rfl rfl ?_
  refine fr_iconst (pc := 1) O (v := (0 : Int32)) dX3_put_1 (by decide) ?_
  refine fr_iconst (pc := 2) O (v := (3 : Int32)) dX3_put_2 (by decide) ?_
  refine fr_callSI (pc := 3) (st := []) O (tX3_within X.2.1 hG  h) mt_X3_within m_238 m_237 rfl (by decide) rfl (Nat.le_of_ble_eq_true rfl) dX3_put_3 (fun r3 σ3 h => ?_)
  refine fr_if_eq (pc := 6) (tgt := 29) O dX3_put_6 (by decide) (fun c_6 => ?_) (fun c_6 => ?_)
  · have h := h.1 c_6
    exact kX3_put_B29 hG O  h
  · have h := h.2 c_6
    refine fr_iload_n (pc := 9) O 2 dX3_put_9 rfl rfl ?_
    refine fr_iconst (pc := 10) O (v := (1 : Int32)) dX3_put_10 (by decide) ?_
    refine fr_bipush (pc := 11) O (v := (20 : Int32)) dX3_put_11 (by decide) ?_
    refine fr_callSI (pc := 13) (st := []) O (tX3_within X.2.1 hG  h) mt_X3_within m_238 m_237 rfl (by decide) rfl (Nat.le_of_ble_eq_true rfl) dX3_put_13 (fun r13 σ13 h => ?_)
    refine fr_if_eq (pc := 16) (tgt := 29) O dX3_put_16 (by decide) (fun c_16 => ?_) (fun c_16 => ?_)
    · have h := h.1 c_16
      exact kX3_put_B29 hG O  h
    · have h := h.2 c_16
      refine fr_iload_n (pc := 19) O 3 dX3_put_19 rfl rfl ?_
      refine fr_iconst (pc := 20) O (v := (0 : Int32)) dX3_put_20 (by decide) ?_
      refine fr_bipush (pc := 21) O (v := (9 : Int32)) dX3_put_21 (by decide) ?_
      refine fr_callSI (pc := 23) (st := []) O (tX3_within X.2.1 hG  h) mt_X3_within m_238 m_237 rfl (by decide) rfl (Nat.le_of_ble_eq_true rfl) dX3_put_23 (fun r23 σ23 h => ?_)
      refine fr_if_ne (pc := 26) (tgt := 31) O dX3_put_26 (by decide) (fun c_26 => ?_) (fun c_26 => ?_)
      · have h := h.1 c_26
        refine fr_aload_n (pc := 31) O 0 dX3_put_31 rfl rfl ?_
        refine fr_get (pc := 32) (k := 0) (v := .ref (gad G 1)) O cl_X3 m_190 (sC_0 hG) (by decide) rfl rfl dX3_put_32 ?_
        refine fr_iload_n (pc := 35) O 1 dX3_put_35 rfl rfl ?_
        refine fr_iload_n (pc := 36) O 2 dX3_put_36 rfl rfl ?_
        refine fr_iload_n (pc := 37) O 3 dX3_put_37 rfl rfl ?_
        refine fr_callVI (pc := 38) (st := []) O (tX0_appendWheel X.2.1 hG rg_1 h) mt_X0_appendWheel mv_X0_appendWheel m_455 cl_X0 rfl (sC_rig hG rg_1) rfl (by decide) rfl (Nat.le_of_ble_eq_true rfl) dX3_put_38 (fun r38 σ38 h => ?_)
        exact fr_iret (pc := 41) O dX3_put_41 h
      · have h := h.2 c_26
        exact kX3_put_B29 hG O  h
theorem tX3_put (l : Launch) {G : Gw} (hG : fw_IsC G) {a1 : Int32} {a2 : Int32} {a3 : Int32}  {σ : Mem} {post : Int32 → Mem → Prop} (h : qX3_put a1 a2 a3 σ post) : fw_CI l G yX3_put cX3_put 4 .int 1 23 [.ref (gad G 0), .int a1, .int a2, .int a3] σ post := fw_ofI (sok_C hG) (by decide) (Nat.le_of_ble_eq_true rfl) (fun X O => kX3_put hG O  h)
def qX3_cut (a1 : Int32) (σ : Mem) (post : Int32 → Mem → Prop) : Prop := (qX3_within a1 (0 : Int32) (σ 1 2) σ (fun r9 σ9 => ((¬ r9 = 0 → (∀ y2_24 : Int32, y2_24 = σ9 1 2 → (∀ σ30 : Mem, σ30 = up2 σ9 1 2 a1 → post y2_24 σ30))) ∧ (r9 = 0 → post (-1 : Int32) σ9))))
set_option maxRecDepth 20000 in
theorem kX3_cut {X : Cx} {G : Gw} (hG : fw_IsC G) (O : fw_Ok X G cX3_cut 3 RX3 1 22 (some .int)) {a1 : Int32}  {σ : Mem} {post : Int32 → Mem → Prop} (h : qX3_cut a1 σ post) : fw_At X G 3 (fw_QI X G post) 0 [(0, .ref (gad G 0)), (1, .int a1)] [] σ := by
  unfold qX3_cut at h
  refine fr_iload_n (pc := 0) O 1 dX3_cut_0 rfl rfl ?_
  refine fr_iconst (pc := 1) O (v := (0 : Int32)) dX3_cut_1 (by decide) ?_
  refine fr_aload_n (pc := 2) O 0 dX3_cut_2 rfl rfl ?_
  refine fr_get (pc := 3) (k := 0) (v := .ref (gad G 1)) O cl_X3 m_190 (sC_0 hG) (by decide) rfl rfl dX3_cut_3 ?_
  refine fr_get (pc := 6) (k := 2) (v := .int (σ 1 2)) O cl_X0 m_80 (sC_rig hG rg_1) (by decide) rfl rfl dX3_cut_6 ?_
  refine fr_callSI (pc := 9) (st := []) O (tX3_within X.2.1 hG  h) mt_X3_within m_238 m_237 rfl (by decide) rfl (Nat.le_of_ble_eq_true rfl) dX3_cut_9 (fun r9 σ9 h => ?_)
  refine fr_if_ne (pc := 12) (tgt := 17) O dX3_cut_12 (by decide) (fun c_12 => ?_) (fun c_12 => ?_)
  · have h := h.1 c_12
    refine fr_aload_n (pc := 17) O 0 dX3_cut_17 rfl rfl ?_
    refine fr_get (pc := 18) (k := 0) (v := .ref (gad G 1)) O cl_X3 m_190 (sC_0 hG) (by decide) rfl rfl dX3_cut_18 ?_
    refine fr_get (pc := 21) (k := 2) (v := .int (σ9 1 2)) O cl_X0 m_80 (sC_rig hG rg_1) (by decide) rfl rfl dX3_cut_21 ?_
    refine fr_nm (fun y2_24 e_y2_24 => ?_)
    have h := h y2_24 e_y2_24
    refine fr_istore_n (pc := 24) O [1, 2, 0] (lv' := [(0, .ref (gad G 0)), (1, .int a1), (2, .int y2_24)]) dX3_cut_24 rfl (by decide) rfl ?_
    refine fr_aload_n (pc := 25) O 0 dX3_cut_25 rfl rfl ?_
    refine fr_get (pc := 26) (k := 0) (v := .ref (gad G 1)) O cl_X3 m_190 (sC_0 hG) (by decide) rfl rfl dX3_cut_26 ?_
    refine fr_iload_n (pc := 29) O 1 dX3_cut_29 rfl rfl ?_
    refine fr_put (pc := 30) (k := 2) O cl_X0 m_80 (sC_rig hG rg_1) (by decide) rfl rfl rfl rfl (fun _ => Nat.le_of_ble_eq_true rfl) (fun _ => rfl) dX3_cut_30 (fun σ30 e_σ30 => ?_)
    have h := h σ30 e_σ30
    refine fr_iload_n (pc := 33) O 2 dX3_cut_33 rfl rfl ?_
    exact fr_iret (pc := 34) O dX3_cut_34 h
  · have h := h.2 c_12
    refine fr_iconst (pc := 15) O (v := (-1 : Int32)) dX3_cut_15 (by decide) ?_
    exact fr_iret (pc := 16) O dX3_cut_16 h
theorem tX3_cut (l : Launch) {G : Gw} (hG : fw_IsC G) {a1 : Int32}  {σ : Mem} {post : Int32 → Mem → Prop} (h : qX3_cut a1 σ post) : fw_CI l G yX3_cut cX3_cut 3 .int 1 22 [.ref (gad G 0), .int a1] σ post := fw_ofI (sok_C hG) (by decide) (Nat.le_of_ble_eq_true rfl) (fun X O => kX3_cut hG O  h)
def qX3_set_B22 (a1 : Int32) (a2 : Int32) (post : Int32 → Mem → Prop) (σ : Mem) : Prop := post (-1 : Int32) σ
set_option maxRecDepth 20000 in
theorem kX3_set_B22 {X : Cx} {G : Gw} (hG : fw_IsC G) (O : fw_Ok X G cX3_set 3 RX3 1 23 (some .int)) {a1 : Int32} {a2 : Int32} {post : Int32 → Mem → Prop}    {σ : Mem} (h : qX3_set_B22 a1 a2 post σ) : fw_At X G 3 (fw_QI X G post) 22 [(0, .ref (gad G 0)), (1, .int a1), (2, .int a2)] [] σ := by
  unfold qX3_set_B22 at h
  refine fr_iconst (pc := 22) O (v := (-1 : Int32)) dX3_set_22 (by decide) ?_
  exact fr_iret (pc := 23) O dX3_set_23 h
def qX3_set (a1 : Int32) (a2 : Int32) (σ : Mem) (post : Int32 → Mem → Prop) : Prop := (qX0_hasAct 1 a1 σ (fun r5 σ5 => ((r5 = 0 → qX3_set_B22 a1 a2 post σ5) ∧ (¬ r5 = 0 → (qX3_within a2 (0 : Int32) (203 : Int32) σ5 (fun r16 σ16 => ((¬ r16 = 0 → (qX3_replace 6 16 a1 a2 σ16 (fun r33 σ33 => post r33 σ33))) ∧ (r16 = 0 → qX3_set_B22 a1 a2 post σ16))))))))
set_option maxRecDepth 20000 in
theorem kX3_set {X : Cx} {G : Gw} (hG : fw_IsC G) (O : fw_Ok X G cX3_set 3 RX3 1 23 (some .int)) {a1 : Int32} {a2 : Int32}  {σ : Mem} {post : Int32 → Mem → Prop} (h : qX3_set a1 a2 σ post) : fw_At X G 3 (fw_QI X G post) 0 [(0, .ref (gad G 0)), (1, .int a1), (2, .int a2)] [] σ := by
  unfold qX3_set at h
  refine fr_aload_n (pc := 0) O 0 dX3_set_0 rfl rfl ?_
  refine fr_get (pc := 1) (k := 0) (v := .ref (gad G 1)) O cl_X3 m_190 (sC_0 hG) (by decide) rfl rfl dX3_set_1 ?_
  refine fr_iload_n (pc := 4) O 1 dX3_set_4 rfl rfl ?_
  refine fr_callVI (pc := 5) (st := []) O (tX0_hasAct X.2.1 hG rg_1 h) mt_X0_hasAct mv_X0_hasAct m_436 cl_X0 rfl (sC_rig hG rg_1) rfl (by decide) rfl (Nat.le_of_ble_eq_true rfl) dX3_set_5 (fun r5 σ5 h => ?_)
  refine fr_if_eq (pc := 8) (tgt := 22) O dX3_set_8 (by decide) (fun c_8 => ?_) (fun c_8 => ?_)
  · have h := h.1 c_8
    exact kX3_set_B22 hG O  h
  · have h := h.2 c_8
    refine fr_iload_n (pc := 11) O 2 dX3_set_11 rfl rfl ?_
    refine fr_iconst (pc := 12) O (v := (0 : Int32)) dX3_set_12 (by decide) ?_
    refine fr_sipush (pc := 13) O (v := (203 : Int32)) dX3_set_13 (by decide) ?_
    refine fr_callSI (pc := 16) (st := []) O (tX3_within X.2.1 hG  h) mt_X3_within m_238 m_237 rfl (by decide) rfl (Nat.le_of_ble_eq_true rfl) dX3_set_16 (fun r16 σ16 h => ?_)
    refine fr_if_ne (pc := 19) (tgt := 24) O dX3_set_19 (by decide) (fun c_19 => ?_) (fun c_19 => ?_)
    · have h := h.1 c_19
      refine fr_aload_n (pc := 24) O 0 dX3_set_24 rfl rfl ?_
      refine fr_get (pc := 25) (k := 0) (v := .ref (gad G 1)) O cl_X3 m_190 (sC_0 hG) (by decide) rfl rfl dX3_set_25 ?_
      refine fr_get (pc := 28) (k := 8) (v := .ref (gad G 6)) O cl_X0 m_94 (sC_rig hG rg_1) (by decide) rfl rfl dX3_set_28 ?_
      refine fr_iload_n (pc := 31) O 1 dX3_set_31 rfl rfl ?_
      refine fr_iload_n (pc := 32) O 2 dX3_set_32 rfl rfl ?_
      refine fr_callSI (pc := 33) (st := []) O (tX3_replace X.2.1 hG (sC_r5 hG rg_1) h) mt_X3_replace m_445 m_444 rfl (by decide) rfl (Nat.le_of_ble_eq_true rfl) dX3_set_33 (fun r33 σ33 h => ?_)
      exact fr_iret (pc := 36) O dX3_set_36 h
    · have h := h.2 c_19
      exact kX3_set_B22 hG O  h
theorem tX3_set (l : Launch) {G : Gw} (hG : fw_IsC G) {a1 : Int32} {a2 : Int32}  {σ : Mem} {post : Int32 → Mem → Prop} (h : qX3_set a1 a2 σ post) : fw_CI l G yX3_set cX3_set 3 .int 1 23 [.ref (gad G 0), .int a1, .int a2] σ post := fw_ofI (sok_C hG) (by decide) (Nat.le_of_ble_eq_true rfl) (fun X O => kX3_set hG O  h)
def qX3_addAct_B23 (a1 : Int32) (post : Int32 → Mem → Prop) (s0 : Int32) (σ : Mem) : Prop := post s0 σ
set_option maxRecDepth 20000 in
theorem kX3_addAct_B23 {X : Cx} {G : Gw} (hG : fw_IsC G) (O : fw_Ok X G cX3_addAct 2 RX3 1 22 (some .int)) {a1 : Int32} {post : Int32 → Mem → Prop}   {s0 : Int32} {σ : Mem} (h : qX3_addAct_B23 a1 post s0 σ) : fw_At X G 2 (fw_QI X G post) 23 [(0, .ref (gad G 0)), (1, .int a1)] [.int s0] σ := by
  unfold qX3_addAct_B23 at h
  exact fr_iret (pc := 23) O dX3_addAct_23 h
def qX3_addAct (a1 : Int32) (σ : Mem) (post : Int32 → Mem → Prop) : Prop := (qX3_within a1 (0 : Int32) (203 : Int32) σ (fun r5 σ5 => ((r5 = 0 → qX3_addAct_B23 a1 post (-1 : Int32) σ5) ∧ (¬ r5 = 0 → (qX0_appendAct 1 a1 σ5 (fun r16 σ16 => qX3_addAct_B23 a1 post r16 σ16))))))
set_option maxRecDepth 20000 in
theorem kX3_addAct {X : Cx} {G : Gw} (hG : fw_IsC G) (O : fw_Ok X G cX3_addAct 2 RX3 1 22 (some .int)) {a1 : Int32}  {σ : Mem} {post : Int32 → Mem → Prop} (h : qX3_addAct a1 σ post) : fw_At X G 2 (fw_QI X G post) 0 [(0, .ref (gad G 0)), (1, .int a1)] [] σ := by
  unfold qX3_addAct at h
  refine fr_iload_n (pc := 0) O 1 dX3_addAct_0 rfl rfl ?_
  refine fr_iconst (pc := 1) O (v := (0 : Int32)) dX3_addAct_1 (by decide) ?_
  refine fr_sipush (pc := 2) O (v := (203 : Int32)) dX3_addAct_2 (by decide) ?_
  refine fr_callSI (pc := 5) (st := []) O (tX3_within X.2.1 hG  h) mt_X3_within m_238 m_237 rfl (by decide) rfl (Nat.le_of_ble_eq_true rfl) dX3_addAct_5 (fun r5 σ5 h => ?_)
  refine fr_if_eq (pc := 8) (tgt := 22) O dX3_addAct_8 (by decide) (fun c_8 => ?_) (fun c_8 => ?_)
  · have h := h.1 c_8
    refine fr_iconst (pc := 22) O (v := (-1 : Int32)) dX3_addAct_22 (by decide) ?_
    exact kX3_addAct_B23 hG O  h
  · have h := h.2 c_8
    refine fr_aload_n (pc := 11) O 0 dX3_addAct_11 rfl rfl ?_
    refine fr_get (pc := 12) (k := 0) (v := .ref (gad G 1)) O cl_X3 m_190 (sC_0 hG) (by decide) rfl rfl dX3_addAct_12 ?_
    refine fr_iload_n (pc := 15) O 1 dX3_addAct_15 rfl rfl ?_
    refine fr_callVI (pc := 16) (st := []) O (tX0_appendAct X.2.1 hG rg_1 h) mt_X0_appendAct mv_X0_appendAct m_472 cl_X0 rfl (sC_rig hG rg_1) rfl (by decide) rfl (Nat.le_of_ble_eq_true rfl) dX3_addAct_16 (fun r16 σ16 h => ?_)
    refine fr_goto (pc := 19) (tgt := 23) O dX3_addAct_19 (by decide) ?_
    exact kX3_addAct_B23 hG O  h
theorem tX3_addAct (l : Launch) {G : Gw} (hG : fw_IsC G) {a1 : Int32}  {σ : Mem} {post : Int32 → Mem → Prop} (h : qX3_addAct a1 σ post) : fw_CI l G yX3_addAct cX3_addAct 2 .int 1 22 [.ref (gad G 0), .int a1] σ post := fw_ofI (sok_C hG) (by decide) (Nat.le_of_ble_eq_true rfl) (fun X O => kX3_addAct hG O  h)
def qX3_add (a1 : Int32) (σ : Mem) (post : Int32 → Mem → Prop) : Prop := (qX3_addAct a1 σ (fun r2 σ2 => post r2 σ2))
set_option maxRecDepth 20000 in
theorem kX3_add {X : Cx} {G : Gw} (hG : fw_IsC G) (O : fw_Ok X G cX3_add 2 RX3 2 43 (some .int)) {a1 : Int32}  {σ : Mem} {post : Int32 → Mem → Prop} (h : qX3_add a1 σ post) : fw_At X G 2 (fw_QI X G post) 0 [(0, .ref (gad G 0)), (1, .int a1)] [] σ := by
  unfold qX3_add at h
  refine fr_aload_n (pc := 0) O 0 dX3_add_0 rfl rfl ?_
  refine fr_iload_n (pc := 1) O 1 dX3_add_1 rfl rfl ?_
  refine fr_callVI (pc := 2) (st := []) O (tX3_addAct X.2.1 hG  h) mt_X3_addAct mv_X3_addAct m_468 cl_X3 rfl (sC_0 hG) rfl (by decide) rfl (Nat.le_of_ble_eq_true rfl) dX3_add_2 (fun r2 σ2 h => ?_)
  exact fr_iret (pc := 5) O dX3_add_5 h
theorem tX3_add (l : Launch) {G : Gw} (hG : fw_IsC G) {a1 : Int32}  {σ : Mem} {post : Int32 → Mem → Prop} (h : qX3_add a1 σ post) : fw_CI l G yX3_add cX3_add 2 .int 2 43 [.ref (gad G 0), .int a1] σ post := fw_ofI (sok_C hG) (by decide) (Nat.le_of_ble_eq_true rfl) (fun X O => kX3_add hG O  h)
def qX3_drop (a1 : Int32) (σ : Mem) (post : Int32 → Mem → Prop) : Prop := (qX3_within a1 (0 : Int32) (σ 1 7) σ (fun r9 σ9 => ((¬ r9 = 0 → (∀ y2_24 : Int32, y2_24 = σ9 1 7 → (∀ σ30 : Mem, σ30 = up2 σ9 1 7 a1 → post y2_24 σ30))) ∧ (r9 = 0 → post (-1 : Int32) σ9))))
set_option maxRecDepth 20000 in
theorem kX3_drop {X : Cx} {G : Gw} (hG : fw_IsC G) (O : fw_Ok X G cX3_drop 3 RX3 1 22 (some .int)) {a1 : Int32}  {σ : Mem} {post : Int32 → Mem → Prop} (h : qX3_drop a1 σ post) : fw_At X G 3 (fw_QI X G post) 0 [(0, .ref (gad G 0)), (1, .int a1)] [] σ := by
  unfold qX3_drop at h
  refine fr_iload_n (pc := 0) O 1 dX3_drop_0 rfl rfl ?_
  refine fr_iconst (pc := 1) O (v := (0 : Int32)) dX3_drop_1 (by decide) ?_
  refine fr_aload_n (pc := 2) O 0 dX3_drop_2 rfl rfl ?_
  refine fr_get (pc := 3) (k := 0) (v := .ref (gad G 1)) O cl_X3 m_190 (sC_0 hG) (by decide) rfl rfl dX3_drop_3 ?_
  refine fr_get (pc := 6) (k := 7) (v := .int (σ 1 7)) O cl_X0 m_91 (sC_rig hG rg_1) (by decide) rfl rfl dX3_drop_6 ?_
  refine fr_callSI (pc := 9) (st := []) O (tX3_within X.2.1 hG  h) mt_X3_within m_238 m_237 rfl (by decide) rfl (Nat.le_of_ble_eq_true rfl) dX3_drop_9 (fun r9 σ9 h => ?_)
  refine fr_if_ne (pc := 12) (tgt := 17) O dX3_drop_12 (by decide) (fun c_12 => ?_) (fun c_12 => ?_)
  · have h := h.1 c_12
    refine fr_aload_n (pc := 17) O 0 dX3_drop_17 rfl rfl ?_
    refine fr_get (pc := 18) (k := 0) (v := .ref (gad G 1)) O cl_X3 m_190 (sC_0 hG) (by decide) rfl rfl dX3_drop_18 ?_
    refine fr_get (pc := 21) (k := 7) (v := .int (σ9 1 7)) O cl_X0 m_91 (sC_rig hG rg_1) (by decide) rfl rfl dX3_drop_21 ?_
    refine fr_nm (fun y2_24 e_y2_24 => ?_)
    have h := h y2_24 e_y2_24
    refine fr_istore_n (pc := 24) O [1, 2, 0] (lv' := [(0, .ref (gad G 0)), (1, .int a1), (2, .int y2_24)]) dX3_drop_24 rfl (by decide) rfl ?_
    refine fr_aload_n (pc := 25) O 0 dX3_drop_25 rfl rfl ?_
    refine fr_get (pc := 26) (k := 0) (v := .ref (gad G 1)) O cl_X3 m_190 (sC_0 hG) (by decide) rfl rfl dX3_drop_26 ?_
    refine fr_iload_n (pc := 29) O 1 dX3_drop_29 rfl rfl ?_
    refine fr_put (pc := 30) (k := 7) O cl_X0 m_91 (sC_rig hG rg_1) (by decide) rfl rfl rfl rfl (fun _ => Nat.le_of_ble_eq_true rfl) (fun _ => rfl) dX3_drop_30 (fun σ30 e_σ30 => ?_)
    have h := h σ30 e_σ30
    refine fr_iload_n (pc := 33) O 2 dX3_drop_33 rfl rfl ?_
    exact fr_iret (pc := 34) O dX3_drop_34 h
  · have h := h.2 c_12
    refine fr_iconst (pc := 15) O (v := (-1 : Int32)) dX3_drop_15 (by decide) ?_
    exact fr_iret (pc := 16) O dX3_drop_16 h
theorem tX3_drop (l : Launch) {G : Gw} (hG : fw_IsC G) {a1 : Int32}  {σ : Mem} {post : Int32 → Mem → Prop} (h : qX3_drop a1 σ post) : fw_CI l G yX3_drop cX3_drop 3 .int 1 22 [.ref (gad G 0), .int a1] σ post := fw_ofI (sok_C hG) (by decide) (Nat.le_of_ble_eq_true rfl) (fun X O => kX3_drop hG O  h)
def qX3_turn_B38 (a1 : Int32) (post : Int32 → Mem → Prop) (σ : Mem) : Prop := (qX0_perform 1 a1 σ (fun σ43 => post (σ43 1 1) σ43))
set_option maxRecDepth 20000 in
theorem kX3_turn_B38 {X : Cx} {G : Gw} (hG : fw_IsC G) (O : fw_Ok X G cX3_turn 2 RX3 4 87 (some .int)) {a1 : Int32} {post : Int32 → Mem → Prop}    {σ : Mem} (h : qX3_turn_B38 a1 post σ) : fw_At X G 2 (fw_QI X G post) 38 [(0, .ref (gad G 0)), (1, .int a1)] [] σ := by
  unfold qX3_turn_B38 at h
  refine fr_aload_n (pc := 38) O 0 dX3_turn_38 rfl rfl ?_
  refine fr_get (pc := 39) (k := 0) (v := .ref (gad G 1)) O cl_X3 m_190 (sC_0 hG) (by decide) rfl rfl dX3_turn_39 ?_
  refine fr_iload_n (pc := 42) O 1 dX3_turn_42 rfl rfl ?_
  refine fr_callVV (pc := 43) (st := []) O (tX0_perform X.2.1 hG rg_1 h) mt_X0_perform mv_X0_perform m_481 cl_X0 rfl (sC_rig hG rg_1) rfl (by decide) rfl (Nat.le_of_ble_eq_true rfl) dX3_turn_43 (fun σ43 h => ?_)
  refine fr_aload_n (pc := 46) O 0 dX3_turn_46 rfl rfl ?_
  refine fr_get (pc := 47) (k := 0) (v := .ref (gad G 1)) O cl_X3 m_190 (sC_0 hG) (by decide) rfl rfl dX3_turn_47 ?_
  refine fr_get (pc := 50) (k := 1) (v := .int (σ43 1 1)) O cl_X0 m_78 (sC_rig hG rg_1) (by decide) rfl rfl dX3_turn_50 ?_
  exact fr_iret (pc := 53) O dX3_turn_53 h
def qX3_turn (a1 : Int32) (σ : Mem) (post : Int32 → Mem → Prop) : Prop := (qX3_within a1 (0 : Int32) (203 : Int32) σ (fun r5 σ5 => ((¬ r5 = 0 → ((a1 < (200 : Int32) → qX3_turn_B38 a1 post σ5) ∧ (¬ a1 < (200 : Int32) → (qX0_hasWheel 1 (a1 - (200 : Int32)) σ5 (fun r29 σ29 => ((¬ r29 = 0 → qX3_turn_B38 a1 post σ29) ∧ (r29 = 0 → post (-2 : Int32) σ29))))))) ∧ (r5 = 0 → post (-1 : Int32) σ5))))
set_option maxRecDepth 20000 in
theorem kX3_turn {X : Cx} {G : Gw} (hG : fw_IsC G) (O : fw_Ok X G cX3_turn 2 RX3 4 87 (some .int)) {a1 : Int32}  {σ : Mem} {post : Int32 → Mem → Prop} (h : qX3_turn a1 σ post) : fw_At X G 2 (fw_QI X G post) 0 [(0, .ref (gad G 0)), (1, .int a1)] [] σ := by
  unfold qX3_turn at h
  refine fr_iload_n (pc := 0) O 1 dX3_turn_0 rfl rfl ?_
  refine fr_iconst (pc := 1) O (v := (0 : Int32)) dX3_turn_1 (by decide) ?_
  refine fr_sipush (pc := 2) O (v := (203 : Int32)) dX3_turn_2 (by decide) ?_
  refine fr_callSI (pc := 5) (st := []) O (tX3_within X.2.1 hG  h) mt_X3_within m_238 m_237 rfl (by decide) rfl (Nat.le_of_ble_eq_true rfl) dX3_turn_5 (fun r5 σ5 h => ?_)
  refine fr_if_ne (pc := 8) (tgt := 13) O dX3_turn_8 (by decide) (fun c_8 => ?_) (fun c_8 => ?_)
  · have h := h.1 c_8
    refine fr_iload_n (pc := 13) O 1 dX3_turn_13 rfl rfl ?_
    refine fr_sipush (pc := 14) O (v := (200 : Int32)) dX3_turn_14 (by decide) ?_
    refine fr_icmp_lt (pc := 17) (tgt := 38) O dX3_turn_17 (by decide) (fun c_17 => ?_) (fun c_17 => ?_)
    · have h := h.1 c_17
      exact kX3_turn_B38 hG O  h
    · have h := h.2 c_17
      refine fr_aload_n (pc := 20) O 0 dX3_turn_20 rfl rfl ?_
      refine fr_get (pc := 21) (k := 0) (v := .ref (gad G 1)) O cl_X3 m_190 (sC_0 hG) (by decide) rfl rfl dX3_turn_21 ?_
      refine fr_iload_n (pc := 24) O 1 dX3_turn_24 rfl rfl ?_
      refine fr_sipush (pc := 25) O (v := (200 : Int32)) dX3_turn_25 (by decide) ?_
      refine fr_isub (pc := 28) O dX3_turn_28 ?_
      refine fr_callVI (pc := 29) (st := []) O (tX0_hasWheel X.2.1 hG rg_1 h) mt_X0_hasWheel mv_X0_hasWheel m_417 cl_X0 rfl (sC_rig hG rg_1) rfl (by decide) rfl (Nat.le_of_ble_eq_true rfl) dX3_turn_29 (fun r29 σ29 h => ?_)
      refine fr_if_ne (pc := 32) (tgt := 38) O dX3_turn_32 (by decide) (fun c_32 => ?_) (fun c_32 => ?_)
      · have h := h.1 c_32
        exact kX3_turn_B38 hG O  h
      · have h := h.2 c_32
        refine fr_bipush (pc := 35) O (v := (-2 : Int32)) dX3_turn_35 (by decide) ?_
        exact fr_iret (pc := 37) O dX3_turn_37 h
  · have h := h.2 c_8
    refine fr_iconst (pc := 11) O (v := (-1 : Int32)) dX3_turn_11 (by decide) ?_
    exact fr_iret (pc := 12) O dX3_turn_12 h
theorem tX3_turn (l : Launch) {G : Gw} (hG : fw_IsC G) {a1 : Int32}  {σ : Mem} {post : Int32 → Mem → Prop} (h : qX3_turn a1 σ post) : fw_CI l G yX3_turn cX3_turn 2 .int 4 87 [.ref (gad G 0), .int a1] σ post := fw_ofI (sok_C hG) (by decide) (Nat.le_of_ble_eq_true rfl) (fun X O => kX3_turn hG O  h)
def qX3_ticks (a1 : Int32) (σ : Mem) (post : Int32 → Mem → Prop) : Prop := (qX3_within a1 (0 : Int32) (100 : Int32) σ (fun r4 σ4 => ((¬ r4 = 0 → ((((σ4 1 9) + a1) < (10000 : Int32) → (∀ y2_37 : Int32, y2_37 = σ4 1 10 → (qX0_runTicks 1 a1 σ4 (fun σ43 => post ((σ43 1 10) - y2_37) σ43)))) ∧ (¬ ((σ4 1 9) + a1) < (10000 : Int32) → post (-3 : Int32) σ4))) ∧ (r4 = 0 → post (-1 : Int32) σ4))))
set_option maxRecDepth 20000 in
theorem kX3_ticks {X : Cx} {G : Gw} (hG : fw_IsC G) (O : fw_Ok X G cX3_ticks 3 RX3 6 132 (some .int)) {a1 : Int32}  {σ : Mem} {post : Int32 → Mem → Prop} (h : qX3_ticks a1 σ post) : fw_At X G 3 (fw_QI X G post) 0 [(0, .ref (gad G 0)), (1, .int a1)] [] σ := by
  unfold qX3_ticks at h
  refine fr_iload_n (pc := 0) O 1 dX3_ticks_0 rfl rfl ?_
  refine fr_iconst (pc := 1) O (v := (0 : Int32)) dX3_ticks_1 (by decide) ?_
  refine fr_bipush (pc := 2) O (v := (100 : Int32)) dX3_ticks_2 (by decide) ?_
  refine fr_callSI (pc := 4) (st := []) O (tX3_within X.2.1 hG  h) mt_X3_within m_238 m_237 rfl (by decide) rfl (Nat.le_of_ble_eq_true rfl) dX3_ticks_4 (fun r4 σ4 h => ?_)
  refine fr_if_ne (pc := 7) (tgt := 12) O dX3_ticks_7 (by decide) (fun c_7 => ?_) (fun c_7 => ?_)
  · have h := h.1 c_7
    refine fr_aload_n (pc := 12) O 0 dX3_ticks_12 rfl rfl ?_
    refine fr_get (pc := 13) (k := 0) (v := .ref (gad G 1)) O cl_X3 m_190 (sC_0 hG) (by decide) rfl rfl dX3_ticks_13 ?_
    refine fr_get (pc := 16) (k := 9) (v := .int (σ4 1 9)) O cl_X0 m_96 (sC_rig hG rg_1) (by decide) rfl rfl dX3_ticks_16 ?_
    refine fr_iload_n (pc := 19) O 1 dX3_ticks_19 rfl rfl ?_
    refine fr_iadd (pc := 20) O dX3_ticks_20 ?_
    refine fr_sipush (pc := 21) O (v := (10000 : Int32)) dX3_ticks_21 (by decide) ?_
    refine fr_icmp_lt (pc := 24) (tgt := 30) O dX3_ticks_24 (by decide) (fun c_24 => ?_) (fun c_24 => ?_)
    · have h := h.1 c_24
      refine fr_aload_n (pc := 30) O 0 dX3_ticks_30 rfl rfl ?_
      refine fr_get (pc := 31) (k := 0) (v := .ref (gad G 1)) O cl_X3 m_190 (sC_0 hG) (by decide) rfl rfl dX3_ticks_31 ?_
      refine fr_get (pc := 34) (k := 10) (v := .int (σ4 1 10)) O cl_X0 m_98 (sC_rig hG rg_1) (by decide) rfl rfl dX3_ticks_34 ?_
      refine fr_nm (fun y2_37 e_y2_37 => ?_)
      have h := h y2_37 e_y2_37
      refine fr_istore_n (pc := 37) O [1, 2, 0] (lv' := [(0, .ref (gad G 0)), (1, .int a1), (2, .int y2_37)]) dX3_ticks_37 rfl (by decide) rfl ?_
      refine fr_aload_n (pc := 38) O 0 dX3_ticks_38 rfl rfl ?_
      refine fr_get (pc := 39) (k := 0) (v := .ref (gad G 1)) O cl_X3 m_190 (sC_0 hG) (by decide) rfl rfl dX3_ticks_39 ?_
      refine fr_iload_n (pc := 42) O 1 dX3_ticks_42 rfl rfl ?_
      refine fr_callVV (pc := 43) (st := []) O (tX0_runTicks X.2.1 hG rg_1 h) mt_X0_runTicks mv_X0_runTicks m_499 cl_X0 rfl (sC_rig hG rg_1) rfl (by decide) rfl (Nat.le_of_ble_eq_true rfl) dX3_ticks_43 (fun σ43 h => ?_)
      refine fr_aload_n (pc := 46) O 0 dX3_ticks_46 rfl rfl ?_
      refine fr_get (pc := 47) (k := 0) (v := .ref (gad G 1)) O cl_X3 m_190 (sC_0 hG) (by decide) rfl rfl dX3_ticks_47 ?_
      refine fr_get (pc := 50) (k := 10) (v := .int (σ43 1 10)) O cl_X0 m_98 (sC_rig hG rg_1) (by decide) rfl rfl dX3_ticks_50 ?_
      refine fr_iload_n (pc := 53) O 2 dX3_ticks_53 rfl rfl ?_
      refine fr_isub (pc := 54) O dX3_ticks_54 ?_
      exact fr_iret (pc := 55) O dX3_ticks_55 h
    · have h := h.2 c_24
      refine fr_bipush (pc := 27) O (v := (-3 : Int32)) dX3_ticks_27 (by decide) ?_
      exact fr_iret (pc := 29) O dX3_ticks_29 h
  · have h := h.2 c_7
    refine fr_iconst (pc := 10) O (v := (-1 : Int32)) dX3_ticks_10 (by decide) ?_
    exact fr_iret (pc := 11) O dX3_ticks_11 h
theorem tX3_ticks (l : Launch) {G : Gw} (hG : fw_IsC G) {a1 : Int32}  {σ : Mem} {post : Int32 → Mem → Prop} (h : qX3_ticks a1 σ post) : fw_CI l G yX3_ticks cX3_ticks 3 .int 6 132 [.ref (gad G 0), .int a1] σ post := fw_ofI (sok_C hG) (by decide) (Nat.le_of_ble_eq_true rfl) (fun X O => kX3_ticks hG O  h)
def qX3_runs_B20 (a1 : Int32) (a2 : Int32) (post : Int32 → Mem → Prop) (σ : Mem) : Prop := post (-1 : Int32) σ
set_option maxRecDepth 20000 in
theorem kX3_runs_B20 {X : Cx} {G : Gw} (hG : fw_IsC G) (O : fw_Ok X G cX3_runs 5 RX3 5 110 (some .int)) {a1 : Int32} {a2 : Int32} {post : Int32 → Mem → Prop}    {σ : Mem} (h : qX3_runs_B20 a1 a2 post σ) : fw_At X G 5 (fw_QI X G post) 20 [(0, .ref (gad G 0)), (1, .int a1), (2, .int a2)] [] σ := by
  unfold qX3_runs_B20 at h
  refine fr_iconst (pc := 20) O (v := (-1 : Int32)) dX3_runs_20 (by decide) ?_
  exact fr_iret (pc := 21) O dX3_runs_21 h
def qX3_runs_L44 (a1 : Int32) (a2 : Int32) (post : Int32 → Mem → Prop) (k44 : Int32 → Int32 → Mem → Prop) (x3 : Int32) (x4 : Int32) (σ : Mem) : Prop := ((a1 ≤ x4 → ((a2 = (0 : Int32) → post (σ 7 10) σ) ∧ (¬ a2 = (0 : Int32) → ((a2 = (1 : Int32) → post (σ 7 11) σ) ∧ (¬ a2 = (1 : Int32) → ((a2 = (2 : Int32) → post (σ 7 12) σ) ∧ (¬ a2 = (2 : Int32) → ((a2 = (3 : Int32) → (qX0_allSwing 7 σ (fun r140 σ140 => post r140 σ140))) ∧ (¬ a2 = (3 : Int32) → post x3 σ))))))))) ∧ (¬ a1 ≤ x4 → (qX0_dueAct 7 σ (fun r58 σ58 => (qX0_passTick 7 r58 σ58 (fun σ61 => (qX0_shaftSpeed 7 σ61 (fun r69 σ69 => (∀ y3_75 : Int32, y3_75 = (if x3 < r69 then r69 else x3) → (∀ y4_76 : Int32, y4_76 = x4 + (1 : Int32) → k44 y3_75 y4_76 σ69))))))))))
set_option maxRecDepth 20000 in
theorem kX3_runs_L44 {X : Cx} {G : Gw} (hG : fw_IsC G) (O : fw_Ok X G cX3_runs 5 RX3 5 110 (some .int)) {a1 : Int32} {a2 : Int32} {post : Int32 → Mem → Prop} {k44 : Int32 → Int32 → Mem → Prop}  (hk44 : ∀ (x3 : Int32) (x4 : Int32) (σ : Mem), k44 x3 x4 σ → fw_At X G 5 (fw_QI X G post) 44 [(0, .ref (gad G 0)), (1, .int a1), (2, .int a2), (3, .int x3), (4, .int x4)] [] σ) {x3 : Int32} {x4 : Int32} {σ : Mem} (h : qX3_runs_L44 a1 a2 post k44 x3 x4 σ) : fw_At X G 5 (fw_QI X G post) 44 [(0, .ref (gad G 0)), (1, .int a1), (2, .int a2), (3, .int x3), (4, .int x4)] [] σ := by
  unfold qX3_runs_L44 at h
  refine fr_iload (pc := 44) O 4 dX3_runs_44 rfl ?_
  refine fr_iload_n (pc := 46) O 1 dX3_runs_46 rfl rfl ?_
  refine fr_icmp_ge (pc := 47) (tgt := 82) O dX3_runs_47 (by decide) (fun c_47 => ?_) (fun c_47 => ?_)
  · have h := h.1 c_47
    refine fr_iload_n (pc := 82) O 2 dX3_runs_82 rfl rfl ?_
    by_cases e83_0 : a2 = (0 : Int32)
    · refine fr_tabIn (pc := 83) (tgt := 112) (off := 29) O dX3_runs_83 (by rw [e83_0]; decide) ?_
      have h := h.1 e83_0
      refine fr_aload_n (pc := 112) O 0 dX3_runs_112 rfl rfl ?_
      refine fr_get (pc := 113) (k := 1) (v := .ref (gad G 7)) O cl_X3 m_191 (sC_0 hG) (by decide) rfl rfl dX3_runs_113 ?_
      refine fr_get (pc := 116) (k := 10) (v := .int (σ 7 10)) O cl_X0 m_98 (sC_rig hG rg_7) (by decide) rfl rfl dX3_runs_116 ?_
      exact fr_iret (pc := 119) O dX3_runs_119 h
    · have h := h.2 e83_0
      by_cases e83_1 : a2 = (1 : Int32)
      · refine fr_tabIn (pc := 83) (tgt := 120) (off := 37) O dX3_runs_83 (by rw [e83_1]; decide) ?_
        have h := h.1 e83_1
        refine fr_aload_n (pc := 120) O 0 dX3_runs_120 rfl rfl ?_
        refine fr_get (pc := 121) (k := 1) (v := .ref (gad G 7)) O cl_X3 m_191 (sC_0 hG) (by decide) rfl rfl dX3_runs_121 ?_
        refine fr_get (pc := 124) (k := 11) (v := .int (σ 7 11)) O cl_X0 m_100 (sC_rig hG rg_7) (by decide) rfl rfl dX3_runs_124 ?_
        exact fr_iret (pc := 127) O dX3_runs_127 h
      · have h := h.2 e83_1
        by_cases e83_2 : a2 = (2 : Int32)
        · refine fr_tabIn (pc := 83) (tgt := 128) (off := 45) O dX3_runs_83 (by rw [e83_2]; decide) ?_
          have h := h.1 e83_2
          refine fr_aload_n (pc := 128) O 0 dX3_runs_128 rfl rfl ?_
          refine fr_get (pc := 129) (k := 1) (v := .ref (gad G 7)) O cl_X3 m_191 (sC_0 hG) (by decide) rfl rfl dX3_runs_129 ?_
          refine fr_get (pc := 132) (k := 12) (v := .int (σ 7 12)) O cl_X0 m_102 (sC_rig hG rg_7) (by decide) rfl rfl dX3_runs_132 ?_
          exact fr_iret (pc := 135) O dX3_runs_135 h
        · have h := h.2 e83_2
          by_cases e83_3 : a2 = (3 : Int32)
          · refine fr_tabIn (pc := 83) (tgt := 136) (off := 53) O dX3_runs_83 (by rw [e83_3]; decide) ?_
            have h := h.1 e83_3
            refine fr_aload_n (pc := 136) O 0 dX3_runs_136 rfl rfl ?_
            refine fr_get (pc := 137) (k := 1) (v := .ref (gad G 7)) O cl_X3 m_191 (sC_0 hG) (by decide) rfl rfl dX3_runs_137 ?_
            refine fr_callVI (pc := 140) (st := []) O (tX0_allSwing X.2.1 hG rg_7 h) mt_X0_allSwing mv_X0_allSwing m_520 cl_X0 rfl (sC_rig hG rg_7) rfl (by decide) rfl (Nat.le_of_ble_eq_true rfl) dX3_runs_140 (fun r140 σ140 h => ?_)
            exact fr_iret (pc := 143) O dX3_runs_143 h
          · have h := h.2 e83_3
            have n0 := lv_neT e83_0 (show ((0 : Int32)).toInt = 0 by decide)
            have n1 := lv_neT e83_1 (show ((1 : Int32)).toInt = 1 by decide)
            have n2 := lv_neT e83_2 (show ((2 : Int32)).toInt = 2 by decide)
            have n3 := lv_neT e83_3 (show ((3 : Int32)).toInt = 3 by decide)
            refine fr_tabOut (pc := 83) (tgt := 144) O dX3_runs_83 (by omega) (by decide) ?_
            refine fr_iload_n (pc := 144) O 3 dX3_runs_144 rfl rfl ?_
            exact fr_iret (pc := 145) O dX3_runs_145 h
  · have h := h.2 c_47
    refine fr_aload_n (pc := 50) O 0 dX3_runs_50 rfl rfl ?_
    refine fr_get (pc := 51) (k := 1) (v := .ref (gad G 7)) O cl_X3 m_191 (sC_0 hG) (by decide) rfl rfl dX3_runs_51 ?_
    refine fr_aload_n (pc := 54) O 0 dX3_runs_54 rfl rfl ?_
    refine fr_get (pc := 55) (k := 1) (v := .ref (gad G 7)) O cl_X3 m_191 (sC_0 hG) (by decide) rfl rfl dX3_runs_55 ?_
    refine fr_callVI (pc := 58) (st := [.ref (gad G 7)]) O (tX0_dueAct X.2.1 hG rg_7 h) mt_X0_dueAct mv_X0_dueAct m_405 cl_X0 rfl (sC_rig hG rg_7) rfl (by decide) rfl (Nat.le_of_ble_eq_true rfl) dX3_runs_58 (fun r58 σ58 h => ?_)
    refine fr_callVV (pc := 61) (st := []) O (tX0_passTick X.2.1 hG rg_7 h) mt_X0_passTick mv_X0_passTick m_518 cl_X0 rfl (sC_rig hG rg_7) rfl (by decide) rfl (Nat.le_of_ble_eq_true rfl) dX3_runs_61 (fun σ61 h => ?_)
    refine fr_iload_n (pc := 64) O 3 dX3_runs_64 rfl rfl ?_
    refine fr_aload_n (pc := 65) O 0 dX3_runs_65 rfl rfl ?_
    refine fr_get (pc := 66) (k := 1) (v := .ref (gad G 7)) O cl_X3 m_191 (sC_0 hG) (by decide) rfl rfl dX3_runs_66 ?_
    refine fr_callVI (pc := 69) (st := [.int x3]) O (tX0_shaftSpeed X.2.1 hG rg_7 h) mt_X0_shaftSpeed mv_X0_shaftSpeed m_398 cl_X0 rfl (sC_rig hG rg_7) rfl (by decide) rfl (Nat.le_of_ble_eq_true rfl) dX3_runs_69 (fun r69 σ69 h => ?_)
    refine fr_mmax (pc := 72) O ml_519 ml_427 m_58 ml_428 ⟨by decide, Nat.le_of_ble_eq_true rfl⟩ dX3_runs_72 ?_
    refine fr_nm (fun y3_75 e_y3_75 => ?_)
    have h := h y3_75 e_y3_75
    refine fr_istore_n (pc := 75) O [1, 2, 3, 0, 4] (lv' := [(0, .ref (gad G 0)), (1, .int a1), (2, .int a2), (3, .int y3_75), (4, .int x4)]) dX3_runs_75 rfl (by decide) rfl ?_
    refine fr_iinc (pc := 76) O 4 [1, 2, 3, 4, 0] (w := (1 : Int32)) (lvF := fun y4_76 => [(0, .ref (gad G 0)), (1, .int a1), (2, .int a2), (3, .int y3_75), (4, .int y4_76)]) dX3_runs_76 rfl (by decide) (by decide) (fun _ => rfl) (fun y4_76 e_y4_76 => ?_)
    have h := h y4_76 e_y4_76
    refine fr_goto (pc := 79) (tgt := 44) O dX3_runs_79 (by decide) ?_
    exact hk44 _ _ _ h
set_option maxRecDepth 20000 in
theorem kX3_runs_L44w {X : Cx} {G : Gw} (hG : fw_IsC G) (O : fw_Ok X G cX3_runs 5 RX3 5 110 (some .int)) {a1 : Int32} {a2 : Int32} {post : Int32 → Mem → Prop}   {n9 : Nat} {x3 : Int32} {x4 : Int32} {σ : Mem} (h : it2 (qX3_runs_L44 a1 a2 post) n9 x3 x4 σ) : fw_At X G 5 (fw_QI X G post) 44 [(0, .ref (gad G 0)), (1, .int a1), (2, .int a2), (3, .int x3), (4, .int x4)] [] σ :=
  it2_walk (T := fun x3 x4 σ => fw_At X G 5 (fw_QI X G post) 44 [(0, .ref (gad G 0)), (1, .int a1), (2, .int a2), (3, .int x3), (4, .int x4)] [] σ) (fun k44 hk44 x3 x4 σ h => kX3_runs_L44 hG O hk44 h) n9 x3 x4 σ h
def qX3_runs (a1 : Int32) (a2 : Int32) (σ : Mem) (post : Int32 → Mem → Prop) : Prop := (qX3_within a1 (0 : Int32) (200 : Int32) σ (fun r5 σ5 => ((r5 = 0 → qX3_runs_B20 a1 a2 post σ5) ∧ (¬ r5 = 0 → (qX3_within a2 (0 : Int32) (4 : Int32) σ5 (fun r14 σ14 => ((¬ r14 = 0 → (qX0_startAs 7 1 σ14 (fun σ30 => (qX0_shaftSpeed 7 σ30 (fun r37 σ37 => ∃ n9, it2 (qX3_runs_L44 a1 a2 post) n9 r37 (0 : Int32) σ37))))) ∧ (r14 = 0 → qX3_runs_B20 a1 a2 post σ14))))))))
set_option maxRecDepth 20000 in
theorem kX3_runs {X : Cx} {G : Gw} (hG : fw_IsC G) (O : fw_Ok X G cX3_runs 5 RX3 5 110 (some .int)) {a1 : Int32} {a2 : Int32}  {σ : Mem} {post : Int32 → Mem → Prop} (h : qX3_runs a1 a2 σ post) : fw_At X G 5 (fw_QI X G post) 0 [(0, .ref (gad G 0)), (1, .int a1), (2, .int a2)] [] σ := by
  unfold qX3_runs at h
  refine fr_iload_n (pc := 0) O 1 dX3_runs_0 rfl rfl ?_
  refine fr_iconst (pc := 1) O (v := (0 : Int32)) dX3_runs_1 (by decide) ?_
  refine fr_sipush (pc := 2) O (v := (200 : Int32)) dX3_runs_2 (by decide) ?_
  refine fr_callSI (pc := 5) (st := []) O (tX3_within X.2.1 hG  h) mt_X3_within m_238 m_237 rfl (by decide) rfl (Nat.le_of_ble_eq_true rfl) dX3_runs_5 (fun r5 σ5 h => ?_)
  refine fr_if_eq (pc := 8) (tgt := 20) O dX3_runs_8 (by decide) (fun c_8 => ?_) (fun c_8 => ?_)
  · have h := h.1 c_8
    exact kX3_runs_B20 hG O  h
  · have h := h.2 c_8
    refine fr_iload_n (pc := 11) O 2 dX3_runs_11 rfl rfl ?_
    refine fr_iconst (pc := 12) O (v := (0 : Int32)) dX3_runs_12 (by decide) ?_
    refine fr_iconst (pc := 13) O (v := (4 : Int32)) dX3_runs_13 (by decide) ?_
    refine fr_callSI (pc := 14) (st := []) O (tX3_within X.2.1 hG  h) mt_X3_within m_238 m_237 rfl (by decide) rfl (Nat.le_of_ble_eq_true rfl) dX3_runs_14 (fun r14 σ14 h => ?_)
    refine fr_if_ne (pc := 17) (tgt := 22) O dX3_runs_17 (by decide) (fun c_17 => ?_) (fun c_17 => ?_)
    · have h := h.1 c_17
      refine fr_aload_n (pc := 22) O 0 dX3_runs_22 rfl rfl ?_
      refine fr_get (pc := 23) (k := 1) (v := .ref (gad G 7)) O cl_X3 m_191 (sC_0 hG) (by decide) rfl rfl dX3_runs_23 ?_
      refine fr_aload_n (pc := 26) O 0 dX3_runs_26 rfl rfl ?_
      refine fr_get (pc := 27) (k := 0) (v := .ref (gad G 1)) O cl_X3 m_190 (sC_0 hG) (by decide) rfl rfl dX3_runs_27 ?_
      refine fr_callVV (pc := 30) (st := []) O (tX0_startAs X.2.1 hG rg_7 rg_1 h) mt_X0_startAs mv_X0_startAs m_513 cl_X0 rfl (sC_rig hG rg_7) rfl (by decide) rfl (Nat.le_of_ble_eq_true rfl) dX3_runs_30 (fun σ30 h => ?_)
      refine fr_aload_n (pc := 33) O 0 dX3_runs_33 rfl rfl ?_
      refine fr_get (pc := 34) (k := 1) (v := .ref (gad G 7)) O cl_X3 m_191 (sC_0 hG) (by decide) rfl rfl dX3_runs_34 ?_
      refine fr_callVI (pc := 37) (st := []) O (tX0_shaftSpeed X.2.1 hG rg_7 h) mt_X0_shaftSpeed mv_X0_shaftSpeed m_398 cl_X0 rfl (sC_rig hG rg_7) rfl (by decide) rfl (Nat.le_of_ble_eq_true rfl) dX3_runs_37 (fun r37 σ37 h => ?_)
      refine fr_istore_n (pc := 40) O [1, 2, 3, 0] (lv' := [(0, .ref (gad G 0)), (1, .int a1), (2, .int a2), (3, .int r37)]) dX3_runs_40 rfl (by decide) rfl ?_
      refine fr_iconst (pc := 41) O (v := (0 : Int32)) dX3_runs_41 (by decide) ?_
      refine fr_istore (pc := 42) O [1, 2, 3, 4, 0] (lv' := [(0, .ref (gad G 0)), (1, .int a1), (2, .int a2), (3, .int r37), (4, .int (0 : Int32))]) dX3_runs_42 (by decide) rfl ?_
      obtain ⟨n9, h⟩ := h
      exact kX3_runs_L44w hG O  h
    · have h := h.2 c_17
      exact kX3_runs_B20 hG O  h
theorem tX3_runs (l : Launch) {G : Gw} (hG : fw_IsC G) {a1 : Int32} {a2 : Int32}  {σ : Mem} {post : Int32 → Mem → Prop} (h : qX3_runs a1 a2 σ post) : fw_CI l G yX3_runs cX3_runs 5 .int 5 110 [.ref (gad G 0), .int a1, .int a2] σ post := fw_ofI (sok_C hG) (by decide) (Nat.le_of_ble_eq_true rfl) (fun X O => kX3_runs hG O  h)
def qX3_ahead_B22 (a1 : Int32) (a2 : Int32) (post : Int32 → Mem → Prop) (σ : Mem) : Prop := post (-1 : Int32) σ
set_option maxRecDepth 20000 in
theorem kX3_ahead_B22 {X : Cx} {G : Gw} (hG : fw_IsC G) (O : fw_Ok X G cX3_ahead 3 RX3 6 132 (some .int)) {a1 : Int32} {a2 : Int32} {post : Int32 → Mem → Prop}    {σ : Mem} (h : qX3_ahead_B22 a1 a2 post σ) : fw_At X G 3 (fw_QI X G post) 22 [(0, .ref (gad G 0)), (1, .int a1), (2, .int a2)] [] σ := by
  unfold qX3_ahead_B22 at h
  refine fr_iconst (pc := 22) O (v := (-1 : Int32)) dX3_ahead_22 (by decide) ?_
  exact fr_iret (pc := 23) O dX3_ahead_23 h
def qX3_ahead (a1 : Int32) (a2 : Int32) (σ : Mem) (post : Int32 → Mem → Prop) : Prop := (qX0_hasWheel 1 a1 σ (fun r5 σ5 => ((r5 = 0 → qX3_ahead_B22 a1 a2 post σ5) ∧ (¬ r5 = 0 → (qX3_within a2 (0 : Int32) (200 : Int32) σ5 (fun r16 σ16 => ((¬ r16 = 0 → (qX0_startAs 7 1 σ16 (fun σ32 => (qX0_runTicks 7 a2 σ32 (fun σ40 => (vp_in a1 4 ∧ post (σ40 11 a1.toNatClampNeg) σ40)))))) ∧ (r16 = 0 → qX3_ahead_B22 a1 a2 post σ16))))))))
set_option maxRecDepth 20000 in
theorem kX3_ahead {X : Cx} {G : Gw} (hG : fw_IsC G) (O : fw_Ok X G cX3_ahead 3 RX3 6 132 (some .int)) {a1 : Int32} {a2 : Int32}  {σ : Mem} {post : Int32 → Mem → Prop} (h : qX3_ahead a1 a2 σ post) : fw_At X G 3 (fw_QI X G post) 0 [(0, .ref (gad G 0)), (1, .int a1), (2, .int a2)] [] σ := by
  unfold qX3_ahead at h
  refine fr_aload_n (pc := 0) O 0 dX3_ahead_0 rfl rfl ?_
  refine fr_get (pc := 1) (k := 0) (v := .ref (gad G 1)) O cl_X3 m_190 (sC_0 hG) (by decide) rfl rfl dX3_ahead_1 ?_
  refine fr_iload_n (pc := 4) O 1 dX3_ahead_4 rfl rfl ?_
  refine fr_callVI (pc := 5) (st := []) O (tX0_hasWheel X.2.1 hG rg_1 h) mt_X0_hasWheel mv_X0_hasWheel m_417 cl_X0 rfl (sC_rig hG rg_1) rfl (by decide) rfl (Nat.le_of_ble_eq_true rfl) dX3_ahead_5 (fun r5 σ5 h => ?_)
  refine fr_if_eq (pc := 8) (tgt := 22) O dX3_ahead_8 (by decide) (fun c_8 => ?_) (fun c_8 => ?_)
  · have h := h.1 c_8
    exact kX3_ahead_B22 hG O  h
  · have h := h.2 c_8
    refine fr_iload_n (pc := 11) O 2 dX3_ahead_11 rfl rfl ?_
    refine fr_iconst (pc := 12) O (v := (0 : Int32)) dX3_ahead_12 (by decide) ?_
    refine fr_sipush (pc := 13) O (v := (200 : Int32)) dX3_ahead_13 (by decide) ?_
    refine fr_callSI (pc := 16) (st := []) O (tX3_within X.2.1 hG  h) mt_X3_within m_238 m_237 rfl (by decide) rfl (Nat.le_of_ble_eq_true rfl) dX3_ahead_16 (fun r16 σ16 h => ?_)
    refine fr_if_ne (pc := 19) (tgt := 24) O dX3_ahead_19 (by decide) (fun c_19 => ?_) (fun c_19 => ?_)
    · have h := h.1 c_19
      refine fr_aload_n (pc := 24) O 0 dX3_ahead_24 rfl rfl ?_
      refine fr_get (pc := 25) (k := 1) (v := .ref (gad G 7)) O cl_X3 m_191 (sC_0 hG) (by decide) rfl rfl dX3_ahead_25 ?_
      refine fr_aload_n (pc := 28) O 0 dX3_ahead_28 rfl rfl ?_
      refine fr_get (pc := 29) (k := 0) (v := .ref (gad G 1)) O cl_X3 m_190 (sC_0 hG) (by decide) rfl rfl dX3_ahead_29 ?_
      refine fr_callVV (pc := 32) (st := []) O (tX0_startAs X.2.1 hG rg_7 rg_1 h) mt_X0_startAs mv_X0_startAs m_513 cl_X0 rfl (sC_rig hG rg_7) rfl (by decide) rfl (Nat.le_of_ble_eq_true rfl) dX3_ahead_32 (fun σ32 h => ?_)
      refine fr_aload_n (pc := 35) O 0 dX3_ahead_35 rfl rfl ?_
      refine fr_get (pc := 36) (k := 1) (v := .ref (gad G 7)) O cl_X3 m_191 (sC_0 hG) (by decide) rfl rfl dX3_ahead_36 ?_
      refine fr_iload_n (pc := 39) O 2 dX3_ahead_39 rfl rfl ?_
      refine fr_callVV (pc := 40) (st := []) O (tX0_runTicks X.2.1 hG rg_7 h) mt_X0_runTicks mv_X0_runTicks m_499 cl_X0 rfl (sC_rig hG rg_7) rfl (by decide) rfl (Nat.le_of_ble_eq_true rfl) dX3_ahead_40 (fun σ40 h => ?_)
      refine fr_aload_n (pc := 43) O 0 dX3_ahead_43 rfl rfl ?_
      refine fr_get (pc := 44) (k := 1) (v := .ref (gad G 7)) O cl_X3 m_191 (sC_0 hG) (by decide) rfl rfl dX3_ahead_44 ?_
      refine fr_get (pc := 47) (k := 6) (v := .ref (gad G 11)) O cl_X0 m_89 (sC_rig hG rg_7) (by decide) rfl rfl dX3_ahead_47 ?_
      refine fr_iload_n (pc := 50) O 1 dX3_ahead_50 rfl rfl ?_
      have hi_51 := h.1
      have h := h.2
      refine fr_iald (pc := 51) O (sC_r4 hG rg_7) hi_51 dX3_ahead_51 ?_
      exact fr_iret (pc := 52) O dX3_ahead_52 h
    · have h := h.2 c_19
      exact kX3_ahead_B22 hG O  h
theorem tX3_ahead (l : Launch) {G : Gw} (hG : fw_IsC G) {a1 : Int32} {a2 : Int32}  {σ : Mem} {post : Int32 → Mem → Prop} (h : qX3_ahead a1 a2 σ post) : fw_CI l G yX3_ahead cX3_ahead 3 .int 6 132 [.ref (gad G 0), .int a1, .int a2] σ post := fw_ofI (sok_C hG) (by decide) (Nat.le_of_ble_eq_true rfl) (fun X O => kX3_ahead hG O  h)
def qX3_when_L26 (a1 : Int32) (post : Int32 → Mem → Prop) (k26 : Int32 → Mem → Prop) (x2 : Int32) (σ : Mem) : Prop := (((200 : Int32) < x2 → post (-4 : Int32) σ) ∧ (¬ (200 : Int32) < x2 → (vp_in a1 4 ∧ ((¬ (σ 11 a1.toNatClampNeg) = 0 → (qX0_dueAct 7 σ (fun r55 σ55 => (qX0_passTick 7 r55 σ55 (fun σ58 => (∀ y2_61 : Int32, y2_61 = x2 + (1 : Int32) → k26 y2_61 σ58)))))) ∧ ((σ 11 a1.toNatClampNeg) = 0 → post x2 σ)))))
set_option maxRecDepth 20000 in
theorem kX3_when_L26 {X : Cx} {G : Gw} (hG : fw_IsC G) (O : fw_Ok X G cX3_when 3 RX3 5 110 (some .int)) {a1 : Int32} {post : Int32 → Mem → Prop} {k26 : Int32 → Mem → Prop}  (hk26 : ∀ (x2 : Int32) (σ : Mem), k26 x2 σ → fw_At X G 3 (fw_QI X G post) 26 [(0, .ref (gad G 0)), (1, .int a1), (2, .int x2)] [] σ) {x2 : Int32} {σ : Mem} (h : qX3_when_L26 a1 post k26 x2 σ) : fw_At X G 3 (fw_QI X G post) 26 [(0, .ref (gad G 0)), (1, .int a1), (2, .int x2)] [] σ := by
  unfold qX3_when_L26 at h
  refine fr_iload_n (pc := 26) O 2 dX3_when_26 rfl rfl ?_
  refine fr_sipush (pc := 27) O (v := (200 : Int32)) dX3_when_27 (by decide) ?_
  refine fr_icmp_gt (pc := 30) (tgt := 67) O dX3_when_30 (by decide) (fun c_30 => ?_) (fun c_30 => ?_)
  · have h := h.1 c_30
    refine fr_bipush (pc := 67) O (v := (-4 : Int32)) dX3_when_67 (by decide) ?_
    exact fr_iret (pc := 69) O dX3_when_69 h
  · have h := h.2 c_30
    refine fr_aload_n (pc := 33) O 0 dX3_when_33 rfl rfl ?_
    refine fr_get (pc := 34) (k := 1) (v := .ref (gad G 7)) O cl_X3 m_191 (sC_0 hG) (by decide) rfl rfl dX3_when_34 ?_
    refine fr_get (pc := 37) (k := 6) (v := .ref (gad G 11)) O cl_X0 m_89 (sC_rig hG rg_7) (by decide) rfl rfl dX3_when_37 ?_
    refine fr_iload_n (pc := 40) O 1 dX3_when_40 rfl rfl ?_
    have hi_41 := h.1
    have h := h.2
    refine fr_iald (pc := 41) O (sC_r4 hG rg_7) hi_41 dX3_when_41 ?_
    refine fr_if_ne (pc := 42) (tgt := 47) O dX3_when_42 (by decide) (fun c_42 => ?_) (fun c_42 => ?_)
    · have h := h.1 c_42
      refine fr_aload_n (pc := 47) O 0 dX3_when_47 rfl rfl ?_
      refine fr_get (pc := 48) (k := 1) (v := .ref (gad G 7)) O cl_X3 m_191 (sC_0 hG) (by decide) rfl rfl dX3_when_48 ?_
      refine fr_aload_n (pc := 51) O 0 dX3_when_51 rfl rfl ?_
      refine fr_get (pc := 52) (k := 1) (v := .ref (gad G 7)) O cl_X3 m_191 (sC_0 hG) (by decide) rfl rfl dX3_when_52 ?_
      refine fr_callVI (pc := 55) (st := [.ref (gad G 7)]) O (tX0_dueAct X.2.1 hG rg_7 h) mt_X0_dueAct mv_X0_dueAct m_405 cl_X0 rfl (sC_rig hG rg_7) rfl (by decide) rfl (Nat.le_of_ble_eq_true rfl) dX3_when_55 (fun r55 σ55 h => ?_)
      refine fr_callVV (pc := 58) (st := []) O (tX0_passTick X.2.1 hG rg_7 h) mt_X0_passTick mv_X0_passTick m_518 cl_X0 rfl (sC_rig hG rg_7) rfl (by decide) rfl (Nat.le_of_ble_eq_true rfl) dX3_when_58 (fun σ58 h => ?_)
      refine fr_iinc (pc := 61) O 2 [1, 2, 0] (w := (1 : Int32)) (lvF := fun y2_61 => [(0, .ref (gad G 0)), (1, .int a1), (2, .int y2_61)]) dX3_when_61 rfl (by decide) (by decide) (fun _ => rfl) (fun y2_61 e_y2_61 => ?_)
      have h := h y2_61 e_y2_61
      refine fr_goto (pc := 64) (tgt := 26) O dX3_when_64 (by decide) ?_
      exact hk26 _ _ h
    · have h := h.2 c_42
      refine fr_iload_n (pc := 45) O 2 dX3_when_45 rfl rfl ?_
      exact fr_iret (pc := 46) O dX3_when_46 h
set_option maxRecDepth 20000 in
theorem kX3_when_L26w {X : Cx} {G : Gw} (hG : fw_IsC G) (O : fw_Ok X G cX3_when 3 RX3 5 110 (some .int)) {a1 : Int32} {post : Int32 → Mem → Prop}   {n9 : Nat} {x2 : Int32} {σ : Mem} (h : it1 (qX3_when_L26 a1 post) n9 x2 σ) : fw_At X G 3 (fw_QI X G post) 26 [(0, .ref (gad G 0)), (1, .int a1), (2, .int x2)] [] σ :=
  it1_walk (T := fun x2 σ => fw_At X G 3 (fw_QI X G post) 26 [(0, .ref (gad G 0)), (1, .int a1), (2, .int x2)] [] σ) (fun k26 hk26 x2 σ h => kX3_when_L26 hG O hk26 h) n9 x2 σ h
def qX3_when (a1 : Int32) (σ : Mem) (post : Int32 → Mem → Prop) : Prop := (qX0_hasWheel 1 a1 σ (fun r5 σ5 => ((¬ r5 = 0 → (qX0_startAs 7 1 σ5 (fun σ21 => ∃ n9, it1 (qX3_when_L26 a1 post) n9 (0 : Int32) σ21))) ∧ (r5 = 0 → post (-1 : Int32) σ5))))
set_option maxRecDepth 20000 in
theorem kX3_when {X : Cx} {G : Gw} (hG : fw_IsC G) (O : fw_Ok X G cX3_when 3 RX3 5 110 (some .int)) {a1 : Int32}  {σ : Mem} {post : Int32 → Mem → Prop} (h : qX3_when a1 σ post) : fw_At X G 3 (fw_QI X G post) 0 [(0, .ref (gad G 0)), (1, .int a1)] [] σ := by
  unfold qX3_when at h
  refine fr_aload_n (pc := 0) O 0 dX3_when_0 rfl rfl ?_
  refine fr_get (pc := 1) (k := 0) (v := .ref (gad G 1)) O cl_X3 m_190 (sC_0 hG) (by decide) rfl rfl dX3_when_1 ?_
  refine fr_iload_n (pc := 4) O 1 dX3_when_4 rfl rfl ?_
  refine fr_callVI (pc := 5) (st := []) O (tX0_hasWheel X.2.1 hG rg_1 h) mt_X0_hasWheel mv_X0_hasWheel m_417 cl_X0 rfl (sC_rig hG rg_1) rfl (by decide) rfl (Nat.le_of_ble_eq_true rfl) dX3_when_5 (fun r5 σ5 h => ?_)
  refine fr_if_ne (pc := 8) (tgt := 13) O dX3_when_8 (by decide) (fun c_8 => ?_) (fun c_8 => ?_)
  · have h := h.1 c_8
    refine fr_aload_n (pc := 13) O 0 dX3_when_13 rfl rfl ?_
    refine fr_get (pc := 14) (k := 1) (v := .ref (gad G 7)) O cl_X3 m_191 (sC_0 hG) (by decide) rfl rfl dX3_when_14 ?_
    refine fr_aload_n (pc := 17) O 0 dX3_when_17 rfl rfl ?_
    refine fr_get (pc := 18) (k := 0) (v := .ref (gad G 1)) O cl_X3 m_190 (sC_0 hG) (by decide) rfl rfl dX3_when_18 ?_
    refine fr_callVV (pc := 21) (st := []) O (tX0_startAs X.2.1 hG rg_7 rg_1 h) mt_X0_startAs mv_X0_startAs m_513 cl_X0 rfl (sC_rig hG rg_7) rfl (by decide) rfl (Nat.le_of_ble_eq_true rfl) dX3_when_21 (fun σ21 h => ?_)
    refine fr_iconst (pc := 24) O (v := (0 : Int32)) dX3_when_24 (by decide) ?_
    refine fr_istore_n (pc := 25) O [1, 2, 0] (lv' := [(0, .ref (gad G 0)), (1, .int a1), (2, .int (0 : Int32))]) dX3_when_25 rfl (by decide) rfl ?_
    obtain ⟨n9, h⟩ := h
    exact kX3_when_L26w hG O  h
  · have h := h.2 c_8
    refine fr_iconst (pc := 11) O (v := (-1 : Int32)) dX3_when_11 (by decide) ?_
    exact fr_iret (pc := 12) O dX3_when_12 h
theorem tX3_when (l : Launch) {G : Gw} (hG : fw_IsC G) {a1 : Int32}  {σ : Mem} {post : Int32 → Mem → Prop} (h : qX3_when a1 σ post) : fw_CI l G yX3_when cX3_when 3 .int 5 110 [.ref (gad G 0), .int a1] σ post := fw_ofI (sok_C hG) (by decide) (Nat.le_of_ble_eq_true rfl) (fun X O => kX3_when hG O  h)
def qX3_again_B67 (post : Int32 → Mem → Prop) (k13 : Int32 → Mem → Prop) (x1 : Int32) (σ : Mem) : Prop := (∀ y1_67 : Int32, y1_67 = x1 + (1 : Int32) → k13 y1_67 σ)
set_option maxRecDepth 20000 in
theorem kX3_again_B67 {X : Cx} {G : Gw} (hG : fw_IsC G) (O : fw_Ok X G cX3_again 2 RX3 5 110 (some .int))  {post : Int32 → Mem → Prop} {k13 : Int32 → Mem → Prop}  (hk13 : ∀ (x1 : Int32) (σ : Mem), k13 x1 σ → fw_At X G 2 (fw_QI X G post) 13 [(0, .ref (gad G 0)), (1, .int x1)] [] σ) {x1 : Int32} {σ : Mem} (h : qX3_again_B67 post k13 x1 σ) : fw_At X G 2 (fw_QI X G post) 67 [(0, .ref (gad G 0)), (1, .int x1)] [] σ := by
  unfold qX3_again_B67 at h
  refine fr_iinc (pc := 67) O 1 [1, 0] (w := (1 : Int32)) (lvF := fun y1_67 => [(0, .ref (gad G 0)), (1, .int y1_67)]) dX3_again_67 rfl (by decide) (by decide) (fun _ => rfl) (fun y1_67 e_y1_67 => ?_)
  have h := h y1_67 e_y1_67
  refine fr_goto (pc := 70) (tgt := 13) O dX3_again_70 (by decide) ?_
  exact hk13 _ _ h
def qX3_again_L13 (post : Int32 → Mem → Prop) (k13 : Int32 → Mem → Prop) (x1 : Int32) (σ : Mem) : Prop := (((200 : Int32) < x1 → post (-4 : Int32) σ) ∧ (¬ (200 : Int32) < x1 → (qX0_dueAct 7 σ (fun r28 σ28 => (qX0_passTick 7 r28 σ28 (fun σ31 => (qX0_dueNumber 7 σ31 (fun r38 σ38 => (qX0_dueNumber 1 σ38 (fun r45 σ45 => ((¬ r38 = r45 → qX3_again_B67 post k13 x1 σ45) ∧ (r38 = r45 → (qX0_swingsAs 7 1 σ45 (fun r59 σ59 => ((r59 = 0 → qX3_again_B67 post k13 x1 σ59) ∧ (¬ r59 = 0 → post x1 σ59))))))))))))))))
set_option maxRecDepth 20000 in
theorem kX3_again_L13 {X : Cx} {G : Gw} (hG : fw_IsC G) (O : fw_Ok X G cX3_again 2 RX3 5 110 (some .int))  {post : Int32 → Mem → Prop} {k13 : Int32 → Mem → Prop}  (hk13 : ∀ (x1 : Int32) (σ : Mem), k13 x1 σ → fw_At X G 2 (fw_QI X G post) 13 [(0, .ref (gad G 0)), (1, .int x1)] [] σ) {x1 : Int32} {σ : Mem} (h : qX3_again_L13 post k13 x1 σ) : fw_At X G 2 (fw_QI X G post) 13 [(0, .ref (gad G 0)), (1, .int x1)] [] σ := by
  unfold qX3_again_L13 at h
  refine fr_iload_n (pc := 13) O 1 dX3_again_13 rfl rfl ?_
  refine fr_sipush (pc := 14) O (v := (200 : Int32)) dX3_again_14 (by decide) ?_
  refine fr_icmp_gt (pc := 17) (tgt := 73) O dX3_again_17 (by decide) (fun c_17 => ?_) (fun c_17 => ?_)
  · have h := h.1 c_17
    refine fr_bipush (pc := 73) O (v := (-4 : Int32)) dX3_again_73 (by decide) ?_
    exact fr_iret (pc := 75) O dX3_again_75 h
  · have h := h.2 c_17
    refine fr_aload_n (pc := 20) O 0 dX3_again_20 rfl rfl ?_
    refine fr_get (pc := 21) (k := 1) (v := .ref (gad G 7)) O cl_X3 m_191 (sC_0 hG) (by decide) rfl rfl dX3_again_21 ?_
    refine fr_aload_n (pc := 24) O 0 dX3_again_24 rfl rfl ?_
    refine fr_get (pc := 25) (k := 1) (v := .ref (gad G 7)) O cl_X3 m_191 (sC_0 hG) (by decide) rfl rfl dX3_again_25 ?_
    refine fr_callVI (pc := 28) (st := [.ref (gad G 7)]) O (tX0_dueAct X.2.1 hG rg_7 h) mt_X0_dueAct mv_X0_dueAct m_405 cl_X0 rfl (sC_rig hG rg_7) rfl (by decide) rfl (Nat.le_of_ble_eq_true rfl) dX3_again_28 (fun r28 σ28 h => ?_)
    refine fr_callVV (pc := 31) (st := []) O (tX0_passTick X.2.1 hG rg_7 h) mt_X0_passTick mv_X0_passTick m_518 cl_X0 rfl (sC_rig hG rg_7) rfl (by decide) rfl (Nat.le_of_ble_eq_true rfl) dX3_again_31 (fun σ31 h => ?_)
    refine fr_aload_n (pc := 34) O 0 dX3_again_34 rfl rfl ?_
    refine fr_get (pc := 35) (k := 1) (v := .ref (gad G 7)) O cl_X3 m_191 (sC_0 hG) (by decide) rfl rfl dX3_again_35 ?_
    refine fr_callVI (pc := 38) (st := []) O (tX0_dueNumber X.2.1 hG rg_7 h) mt_X0_dueNumber mv_X0_dueNumber m_540 cl_X0 rfl (sC_rig hG rg_7) rfl (by decide) rfl (Nat.le_of_ble_eq_true rfl) dX3_again_38 (fun r38 σ38 h => ?_)
    refine fr_aload_n (pc := 41) O 0 dX3_again_41 rfl rfl ?_
    refine fr_get (pc := 42) (k := 0) (v := .ref (gad G 1)) O cl_X3 m_190 (sC_0 hG) (by decide) rfl rfl dX3_again_42 ?_
    refine fr_callVI (pc := 45) (st := [.int r38]) O (tX0_dueNumber X.2.1 hG rg_1 h) mt_X0_dueNumber mv_X0_dueNumber m_540 cl_X0 rfl (sC_rig hG rg_1) rfl (by decide) rfl (Nat.le_of_ble_eq_true rfl) dX3_again_45 (fun r45 σ45 h => ?_)
    refine fr_icmp_ne (pc := 48) (tgt := 67) O dX3_again_48 (by decide) (fun c_48 => ?_) (fun c_48 => ?_)
    · have h := h.1 c_48
      exact kX3_again_B67 hG O hk13 h
    · have h := h.2 c_48
      refine fr_aload_n (pc := 51) O 0 dX3_again_51 rfl rfl ?_
      refine fr_get (pc := 52) (k := 1) (v := .ref (gad G 7)) O cl_X3 m_191 (sC_0 hG) (by decide) rfl rfl dX3_again_52 ?_
      refine fr_aload_n (pc := 55) O 0 dX3_again_55 rfl rfl ?_
      refine fr_get (pc := 56) (k := 0) (v := .ref (gad G 1)) O cl_X3 m_190 (sC_0 hG) (by decide) rfl rfl dX3_again_56 ?_
      refine fr_callVI (pc := 59) (st := []) O (tX0_swingsAs X.2.1 hG rg_7 rg_1 h) mt_X0_swingsAs mv_X0_swingsAs m_541 cl_X0 rfl (sC_rig hG rg_7) rfl (by decide) rfl (Nat.le_of_ble_eq_true rfl) dX3_again_59 (fun r59 σ59 h => ?_)
      refine fr_if_eq (pc := 62) (tgt := 67) O dX3_again_62 (by decide) (fun c_62 => ?_) (fun c_62 => ?_)
      · have h := h.1 c_62
        exact kX3_again_B67 hG O hk13 h
      · have h := h.2 c_62
        refine fr_iload_n (pc := 65) O 1 dX3_again_65 rfl rfl ?_
        exact fr_iret (pc := 66) O dX3_again_66 h
set_option maxRecDepth 20000 in
theorem kX3_again_L13w {X : Cx} {G : Gw} (hG : fw_IsC G) (O : fw_Ok X G cX3_again 2 RX3 5 110 (some .int))  {post : Int32 → Mem → Prop}   {n9 : Nat} {x1 : Int32} {σ : Mem} (h : it1 (qX3_again_L13 post) n9 x1 σ) : fw_At X G 2 (fw_QI X G post) 13 [(0, .ref (gad G 0)), (1, .int x1)] [] σ :=
  it1_walk (T := fun x1 σ => fw_At X G 2 (fw_QI X G post) 13 [(0, .ref (gad G 0)), (1, .int x1)] [] σ) (fun k13 hk13 x1 σ h => kX3_again_L13 hG O hk13 h) n9 x1 σ h
def qX3_again  (σ : Mem) (post : Int32 → Mem → Prop) : Prop := (qX0_startAs 7 1 σ (fun σ8 => ∃ n9, it1 (qX3_again_L13 post) n9 (1 : Int32) σ8))
set_option maxRecDepth 20000 in
theorem kX3_again {X : Cx} {G : Gw} (hG : fw_IsC G) (O : fw_Ok X G cX3_again 2 RX3 5 110 (some .int))   {σ : Mem} {post : Int32 → Mem → Prop} (h : qX3_again  σ post) : fw_At X G 2 (fw_QI X G post) 0 [(0, .ref (gad G 0))] [] σ := by
  unfold qX3_again at h
  refine fr_aload_n (pc := 0) O 0 dX3_again_0 rfl rfl ?_
  refine fr_get (pc := 1) (k := 1) (v := .ref (gad G 7)) O cl_X3 m_191 (sC_0 hG) (by decide) rfl rfl dX3_again_1 ?_
  refine fr_aload_n (pc := 4) O 0 dX3_again_4 rfl rfl ?_
  refine fr_get (pc := 5) (k := 0) (v := .ref (gad G 1)) O cl_X3 m_190 (sC_0 hG) (by decide) rfl rfl dX3_again_5 ?_
  refine fr_callVV (pc := 8) (st := []) O (tX0_startAs X.2.1 hG rg_7 rg_1 h) mt_X0_startAs mv_X0_startAs m_513 cl_X0 rfl (sC_rig hG rg_7) rfl (by decide) rfl (Nat.le_of_ble_eq_true rfl) dX3_again_8 (fun σ8 h => ?_)
  refine fr_iconst (pc := 11) O (v := (1 : Int32)) dX3_again_11 (by decide) ?_
  refine fr_istore_n (pc := 12) O [1, 0] (lv' := [(0, .ref (gad G 0)), (1, .int (1 : Int32))]) dX3_again_12 rfl (by decide) rfl ?_
  obtain ⟨n9, h⟩ := h
  exact kX3_again_L13w hG O  h
theorem tX3_again (l : Launch) {G : Gw} (hG : fw_IsC G)   {σ : Mem} {post : Int32 → Mem → Prop} (h : qX3_again  σ post) : fw_CI l G yX3_again cX3_again 2 .int 5 110 [.ref (gad G 0)] σ post := fw_ofI (sok_C hG) (by decide) (Nat.le_of_ble_eq_true rfl) (fun X O => kX3_again hG O  h)
def qX3_asksBest_B25 (a0 : Int32) (a1 : Int32) (post : Int32 → Mem → Prop) (s0 : Int32) (σ : Mem) : Prop := (isB s0 ∧ post s0 σ)
set_option maxRecDepth 20000 in
theorem kX3_asksBest_B25 {X : Cx} {G : Gw} (hG : fw_IsC G) (O : fw_Ok X G cX3_asksBest 2 RX3 1 22 (some .boolean)) {a0 : Int32} {a1 : Int32} {post : Int32 → Mem → Prop}   {s0 : Int32} {σ : Mem} (h : qX3_asksBest_B25 a0 a1 post s0 σ) : fw_At X G 2 (fw_QI X G post) 25 [(0, .int a0), (1, .int a1)] [.int s0] σ := by
  unfold qX3_asksBest_B25 at h
  exact fr_zret (pc := 25) O dX3_asksBest_25 h.1 h.2
def qX3_asksBest_B24 (a0 : Int32) (a1 : Int32) (post : Int32 → Mem → Prop) (σ : Mem) : Prop := qX3_asksBest_B25 a0 a1 post (0 : Int32) σ
set_option maxRecDepth 20000 in
theorem kX3_asksBest_B24 {X : Cx} {G : Gw} (hG : fw_IsC G) (O : fw_Ok X G cX3_asksBest 2 RX3 1 22 (some .boolean)) {a0 : Int32} {a1 : Int32} {post : Int32 → Mem → Prop}    {σ : Mem} (h : qX3_asksBest_B24 a0 a1 post σ) : fw_At X G 2 (fw_QI X G post) 24 [(0, .int a0), (1, .int a1)] [] σ := by
  unfold qX3_asksBest_B24 at h
  refine fr_iconst (pc := 24) O (v := (0 : Int32)) dX3_asksBest_24 (by decide) ?_
  exact kX3_asksBest_B25 hG O  h
def qX3_asksBest (a0 : Int32) (a1 : Int32) (σ : Mem) (post : Int32 → Mem → Prop) : Prop := (qX3_within a0 (0 : Int32) (200 : Int32) σ (fun r5 σ5 => ((r5 = 0 → qX3_asksBest_B24 a0 a1 post σ5) ∧ (¬ r5 = 0 → (qX3_within a1 (0 : Int32) (1 : Int32) σ5 (fun r14 σ14 => ((r14 = 0 → qX3_asksBest_B24 a0 a1 post σ14) ∧ (¬ r14 = 0 → qX3_asksBest_B25 a0 a1 post (1 : Int32) σ14))))))))
set_option maxRecDepth 20000 in
theorem kX3_asksBest {X : Cx} {G : Gw} (hG : fw_IsC G) (O : fw_Ok X G cX3_asksBest 2 RX3 1 22 (some .boolean)) {a0 : Int32} {a1 : Int32}  {σ : Mem} {post : Int32 → Mem → Prop} (h : qX3_asksBest a0 a1 σ post) : fw_At X G 2 (fw_QI X G post) 0 [(0, .int a0), (1, .int a1)] [] σ := by
  unfold qX3_asksBest at h
  refine fr_iload_n (pc := 0) O 0 dX3_asksBest_0 rfl rfl ?_
  refine fr_iconst (pc := 1) O (v := (0 : Int32)) dX3_asksBest_1 (by decide) ?_
  refine fr_sipush (pc := 2) O (v := (200 : Int32)) dX3_asksBest_2 (by decide) ?_
  refine fr_callSI (pc := 5) (st := []) O (tX3_within X.2.1 hG  h) mt_X3_within m_238 m_237 rfl (by decide) rfl (Nat.le_of_ble_eq_true rfl) dX3_asksBest_5 (fun r5 σ5 h => ?_)
  refine fr_if_eq (pc := 8) (tgt := 24) O dX3_asksBest_8 (by decide) (fun c_8 => ?_) (fun c_8 => ?_)
  · have h := h.1 c_8
    exact kX3_asksBest_B24 hG O  h
  · have h := h.2 c_8
    refine fr_iload_n (pc := 11) O 1 dX3_asksBest_11 rfl rfl ?_
    refine fr_iconst (pc := 12) O (v := (0 : Int32)) dX3_asksBest_12 (by decide) ?_
    refine fr_iconst (pc := 13) O (v := (1 : Int32)) dX3_asksBest_13 (by decide) ?_
    refine fr_callSI (pc := 14) (st := []) O (tX3_within X.2.1 hG  h) mt_X3_within m_238 m_237 rfl (by decide) rfl (Nat.le_of_ble_eq_true rfl) dX3_asksBest_14 (fun r14 σ14 h => ?_)
    refine fr_if_eq (pc := 17) (tgt := 24) O dX3_asksBest_17 (by decide) (fun c_17 => ?_) (fun c_17 => ?_)
    · have h := h.1 c_17
      exact kX3_asksBest_B24 hG O  h
    · have h := h.2 c_17
      refine fr_iconst (pc := 20) O (v := (1 : Int32)) dX3_asksBest_20 (by decide) ?_
      refine fr_goto (pc := 21) (tgt := 25) O dX3_asksBest_21 (by decide) ?_
      exact kX3_asksBest_B25 hG O  h
theorem tX3_asksBest (l : Launch) {G : Gw} (hG : fw_IsC G) {a0 : Int32} {a1 : Int32}  {σ : Mem} {post : Int32 → Mem → Prop} (h : qX3_asksBest a0 a1 σ post) : fw_CI l G yX3_asksBest cX3_asksBest 2 .boolean 1 22 [.int a0, .int a1] σ post := fw_ofI (sok_C hG) (by decide) (Nat.le_of_ble_eq_true rfl) (fun X O => kX3_asksBest hG O  h)
def qX3_mass_B19 (a1 : Int32) (a2 : Int32) (a3 : Int32) (post : Int32 → Mem → Prop) (σ : Mem) : Prop := post (-1 : Int32) σ
set_option maxRecDepth 20000 in
theorem kX3_mass_B19 {X : Cx} {G : Gw} (hG : fw_IsC G) (O : fw_Ok X G cX3_mass 7 RX3 6 132 (some .int)) {a1 : Int32} {a2 : Int32} {a3 : Int32} {post : Int32 → Mem → Prop}    {σ : Mem} (h : qX3_mass_B19 a1 a2 a3 post σ) : fw_At X G 7 (fw_QI X G post) 19 [(0, .ref (gad G 0)), (1, .int a1), (2, .int a2), (3, .int a3)] [] σ := by
  unfold qX3_mass_B19 at h
  refine fr_iconst (pc := 19) O (v := (-1 : Int32)) dX3_mass_19 (by decide) ?_
  exact fr_iret (pc := 20) O dX3_mass_20 h
def qX3_mass_B109 (a1 : Int32) (a2 : Int32) (a3 : Int32) (post : Int32 → Mem → Prop) (s0 : Int32) (σ : Mem) : Prop := post s0 σ
set_option maxRecDepth 20000 in
theorem kX3_mass_B109 {X : Cx} {G : Gw} (hG : fw_IsC G) (O : fw_Ok X G cX3_mass 7 RX3 6 132 (some .int)) {a1 : Int32} {a2 : Int32} {a3 : Int32} {post : Int32 → Mem → Prop}   {s0 : Int32} {σ : Mem} (h : qX3_mass_B109 a1 a2 a3 post s0 σ) : fw_At X G 7 (fw_QI X G post) 109 [(0, .ref (gad G 0)), (1, .int a1), (2, .int a2), (3, .int a3)] [.int s0] σ := by
  unfold qX3_mass_B109 at h
  exact fr_iret (pc := 109) O dX3_mass_109 h
def qX3_mass_B92 (a1 : Int32) (a2 : Int32) (a3 : Int32) (post : Int32 → Mem → Prop) (k30 : Int32 → Int32 → Int32 → Mem → Prop) (x4 : Int32) (x5 : Int32) (x6 : Int32) (σ : Mem) : Prop := (∀ y6_92 : Int32, y6_92 = x6 + (1 : Int32) → k30 x4 x5 y6_92 σ)
set_option maxRecDepth 20000 in
theorem kX3_mass_B92 {X : Cx} {G : Gw} (hG : fw_IsC G) (O : fw_Ok X G cX3_mass 7 RX3 6 132 (some .int)) {a1 : Int32} {a2 : Int32} {a3 : Int32} {post : Int32 → Mem → Prop} {k30 : Int32 → Int32 → Int32 → Mem → Prop}  (hk30 : ∀ (x4 : Int32) (x5 : Int32) (x6 : Int32) (σ : Mem), k30 x4 x5 x6 σ → fw_At X G 7 (fw_QI X G post) 30 [(0, .ref (gad G 0)), (1, .int a1), (2, .int a2), (3, .int a3), (4, .int x4), (5, .int x5), (6, .int x6)] [] σ) {x4 : Int32} {x5 : Int32} {x6 : Int32} {σ : Mem} (h : qX3_mass_B92 a1 a2 a3 post k30 x4 x5 x6 σ) : fw_At X G 7 (fw_QI X G post) 92 [(0, .ref (gad G 0)), (1, .int a1), (2, .int a2), (3, .int a3), (4, .int x4), (5, .int x5), (6, .int x6)] [] σ := by
  unfold qX3_mass_B92 at h
  refine fr_iinc (pc := 92) O 6 [1, 2, 3, 4, 5, 6, 0] (w := (1 : Int32)) (lvF := fun y6_92 => [(0, .ref (gad G 0)), (1, .int a1), (2, .int a2), (3, .int a3), (4, .int x4), (5, .int x5), (6, .int y6_92)]) dX3_mass_92 rfl (by decide) (by decide) (fun _ => rfl) (fun y6_92 e_y6_92 => ?_)
  have h := h y6_92 e_y6_92
  refine fr_goto (pc := 95) (tgt := 30) O dX3_mass_95 (by decide) ?_
  exact hk30 _ _ _ _ h
def qX3_mass_L30 (a1 : Int32) (a2 : Int32) (a3 : Int32) (post : Int32 → Mem → Prop) (k30 : Int32 → Int32 → Int32 → Mem → Prop) (x4 : Int32) (x5 : Int32) (x6 : Int32) (σ : Mem) : Prop := (((20 : Int32) < x6 → ((¬ a3 = 0 → qX3_mass_B109 a1 a2 a3 post x5 σ) ∧ (a3 = 0 → qX3_mass_B109 a1 a2 a3 post x4 σ))) ∧ (¬ (20 : Int32) < x6 → (qX0_startAs 7 1 σ (fun σ45 => (vp_in a1 4 ∧ (∀ σ58 : Mem, σ58 = up2 σ45 9 a1.toNatClampNeg x6 → (qX0_runTicks 7 a2 σ58 (fun σ64 => (((σ64 7 10) ≤ x5 → qX3_mass_B92 a1 a2 a3 post k30 x4 x5 x6 σ64) ∧ (¬ (σ64 7 10) ≤ x5 → (∀ y5_86 : Int32, y5_86 = σ64 7 10 → qX3_mass_B92 a1 a2 a3 post k30 x6 y5_86 x6 σ64)))))))))))
set_option maxRecDepth 20000 in
theorem kX3_mass_L30 {X : Cx} {G : Gw} (hG : fw_IsC G) (O : fw_Ok X G cX3_mass 7 RX3 6 132 (some .int)) {a1 : Int32} {a2 : Int32} {a3 : Int32} {post : Int32 → Mem → Prop} {k30 : Int32 → Int32 → Int32 → Mem → Prop}  (hk30 : ∀ (x4 : Int32) (x5 : Int32) (x6 : Int32) (σ : Mem), k30 x4 x5 x6 σ → fw_At X G 7 (fw_QI X G post) 30 [(0, .ref (gad G 0)), (1, .int a1), (2, .int a2), (3, .int a3), (4, .int x4), (5, .int x5), (6, .int x6)] [] σ) {x4 : Int32} {x5 : Int32} {x6 : Int32} {σ : Mem} (h : qX3_mass_L30 a1 a2 a3 post k30 x4 x5 x6 σ) : fw_At X G 7 (fw_QI X G post) 30 [(0, .ref (gad G 0)), (1, .int a1), (2, .int a2), (3, .int a3), (4, .int x4), (5, .int x5), (6, .int x6)] [] σ := by
  unfold qX3_mass_L30 at h
  refine fr_iload (pc := 30) O 6 dX3_mass_30 rfl ?_
  refine fr_bipush (pc := 32) O (v := (20 : Int32)) dX3_mass_32 (by decide) ?_
  refine fr_icmp_gt (pc := 34) (tgt := 98) O dX3_mass_34 (by decide) (fun c_34 => ?_) (fun c_34 => ?_)
  · have h := h.1 c_34
    refine fr_iload_n (pc := 98) O 3 dX3_mass_98 rfl rfl ?_
    refine fr_if_ne (pc := 99) (tgt := 107) O dX3_mass_99 (by decide) (fun c_99 => ?_) (fun c_99 => ?_)
    · have h := h.1 c_99
      refine fr_iload (pc := 107) O 5 dX3_mass_107 rfl ?_
      refine fw_sub (lv' := [(0, .ref (gad G 0)), (1, .int a1), (2, .int a2), (3, .int a3)]) [0, 1, 2, 3] rfl ?_
      exact kX3_mass_B109 hG O  h
    · have h := h.2 c_99
      refine fr_iload (pc := 102) O 4 dX3_mass_102 rfl ?_
      refine fr_goto (pc := 104) (tgt := 109) O dX3_mass_104 (by decide) ?_
      refine fw_sub (lv' := [(0, .ref (gad G 0)), (1, .int a1), (2, .int a2), (3, .int a3)]) [0, 1, 2, 3] rfl ?_
      exact kX3_mass_B109 hG O  h
  · have h := h.2 c_34
    refine fr_aload_n (pc := 37) O 0 dX3_mass_37 rfl rfl ?_
    refine fr_get (pc := 38) (k := 1) (v := .ref (gad G 7)) O cl_X3 m_191 (sC_0 hG) (by decide) rfl rfl dX3_mass_38 ?_
    refine fr_aload_n (pc := 41) O 0 dX3_mass_41 rfl rfl ?_
    refine fr_get (pc := 42) (k := 0) (v := .ref (gad G 1)) O cl_X3 m_190 (sC_0 hG) (by decide) rfl rfl dX3_mass_42 ?_
    refine fr_callVV (pc := 45) (st := []) O (tX0_startAs X.2.1 hG rg_7 rg_1 h) mt_X0_startAs mv_X0_startAs m_513 cl_X0 rfl (sC_rig hG rg_7) rfl (by decide) rfl (Nat.le_of_ble_eq_true rfl) dX3_mass_45 (fun σ45 h => ?_)
    refine fr_aload_n (pc := 48) O 0 dX3_mass_48 rfl rfl ?_
    refine fr_get (pc := 49) (k := 1) (v := .ref (gad G 7)) O cl_X3 m_191 (sC_0 hG) (by decide) rfl rfl dX3_mass_49 ?_
    refine fr_get (pc := 52) (k := 4) (v := .ref (gad G 9)) O cl_X0 m_85 (sC_rig hG rg_7) (by decide) rfl rfl dX3_mass_52 ?_
    refine fr_iload_n (pc := 55) O 1 dX3_mass_55 rfl rfl ?_
    refine fr_iload (pc := 56) O 6 dX3_mass_56 rfl ?_
    have hi_58 := h.1
    have h := h.2
    refine fr_iast (pc := 58) O (sC_r2 hG rg_7) hi_58 dX3_mass_58 (fun σ58 e_σ58 => ?_)
    have h := h σ58 e_σ58
    refine fr_aload_n (pc := 59) O 0 dX3_mass_59 rfl rfl ?_
    refine fr_get (pc := 60) (k := 1) (v := .ref (gad G 7)) O cl_X3 m_191 (sC_0 hG) (by decide) rfl rfl dX3_mass_60 ?_
    refine fr_iload_n (pc := 63) O 2 dX3_mass_63 rfl rfl ?_
    refine fr_callVV (pc := 64) (st := []) O (tX0_runTicks X.2.1 hG rg_7 h) mt_X0_runTicks mv_X0_runTicks m_499 cl_X0 rfl (sC_rig hG rg_7) rfl (by decide) rfl (Nat.le_of_ble_eq_true rfl) dX3_mass_64 (fun σ64 h => ?_)
    refine fr_aload_n (pc := 67) O 0 dX3_mass_67 rfl rfl ?_
    refine fr_get (pc := 68) (k := 1) (v := .ref (gad G 7)) O cl_X3 m_191 (sC_0 hG) (by decide) rfl rfl dX3_mass_68 ?_
    refine fr_get (pc := 71) (k := 10) (v := .int (σ64 7 10)) O cl_X0 m_98 (sC_rig hG rg_7) (by decide) rfl rfl dX3_mass_71 ?_
    refine fr_iload (pc := 74) O 5 dX3_mass_74 rfl ?_
    refine fr_icmp_le (pc := 76) (tgt := 92) O dX3_mass_76 (by decide) (fun c_76 => ?_) (fun c_76 => ?_)
    · have h := h.1 c_76
      exact kX3_mass_B92 hG O hk30 h
    · have h := h.2 c_76
      refine fr_aload_n (pc := 79) O 0 dX3_mass_79 rfl rfl ?_
      refine fr_get (pc := 80) (k := 1) (v := .ref (gad G 7)) O cl_X3 m_191 (sC_0 hG) (by decide) rfl rfl dX3_mass_80 ?_
      refine fr_get (pc := 83) (k := 10) (v := .int (σ64 7 10)) O cl_X0 m_98 (sC_rig hG rg_7) (by decide) rfl rfl dX3_mass_83 ?_
      refine fr_nm (fun y5_86 e_y5_86 => ?_)
      have h := h y5_86 e_y5_86
      refine fr_istore (pc := 86) O [1, 2, 3, 4, 5, 0, 6] (lv' := [(0, .ref (gad G 0)), (1, .int a1), (2, .int a2), (3, .int a3), (4, .int x4), (5, .int y5_86), (6, .int x6)]) dX3_mass_86 (by decide) rfl ?_
      refine fr_iload (pc := 88) O 6 dX3_mass_88 rfl ?_
      refine fr_istore (pc := 90) O [1, 2, 3, 4, 0, 5, 6] (lv' := [(0, .ref (gad G 0)), (1, .int a1), (2, .int a2), (3, .int a3), (4, .int x6), (5, .int y5_86), (6, .int x6)]) dX3_mass_90 (by decide) rfl ?_
      exact kX3_mass_B92 hG O hk30 h
set_option maxRecDepth 20000 in
theorem kX3_mass_L30w {X : Cx} {G : Gw} (hG : fw_IsC G) (O : fw_Ok X G cX3_mass 7 RX3 6 132 (some .int)) {a1 : Int32} {a2 : Int32} {a3 : Int32} {post : Int32 → Mem → Prop}   {n9 : Nat} {x4 : Int32} {x5 : Int32} {x6 : Int32} {σ : Mem} (h : it3 (qX3_mass_L30 a1 a2 a3 post) n9 x4 x5 x6 σ) : fw_At X G 7 (fw_QI X G post) 30 [(0, .ref (gad G 0)), (1, .int a1), (2, .int a2), (3, .int a3), (4, .int x4), (5, .int x5), (6, .int x6)] [] σ :=
  it3_walk (T := fun x4 x5 x6 σ => fw_At X G 7 (fw_QI X G post) 30 [(0, .ref (gad G 0)), (1, .int a1), (2, .int a2), (3, .int a3), (4, .int x4), (5, .int x5), (6, .int x6)] [] σ) (fun k30 hk30 x4 x5 x6 σ h => kX3_mass_L30 hG O hk30 h) n9 x4 x5 x6 σ h
def qX3_mass (a1 : Int32) (a2 : Int32) (a3 : Int32) (σ : Mem) (post : Int32 → Mem → Prop) : Prop := (qX0_hasWheel 1 a1 σ (fun r5 σ5 => ((r5 = 0 → qX3_mass_B19 a1 a2 a3 post σ5) ∧ (¬ r5 = 0 → (qX3_asksBest a2 a3 σ5 (fun r13 σ13 => ((¬ r13 = 0 → ∃ n9, it3 (qX3_mass_L30 a1 a2 a3 post) n9 (0 : Int32) (-1 : Int32) (1 : Int32) σ13) ∧ (r13 = 0 → qX3_mass_B19 a1 a2 a3 post σ13))))))))
set_option maxRecDepth 20000 in
theorem kX3_mass {X : Cx} {G : Gw} (hG : fw_IsC G) (O : fw_Ok X G cX3_mass 7 RX3 6 132 (some .int)) {a1 : Int32} {a2 : Int32} {a3 : Int32}  {σ : Mem} {post : Int32 → Mem → Prop} (h : qX3_mass a1 a2 a3 σ post) : fw_At X G 7 (fw_QI X G post) 0 [(0, .ref (gad G 0)), (1, .int a1), (2, .int a2), (3, .int a3)] [] σ := by
  unfold qX3_mass at h
  refine fr_aload_n (pc := 0) O 0 dX3_mass_0 rfl rfl ?_
  refine fr_get (pc := 1) (k := 0) (v := .ref (gad G 1)) O cl_X3 m_190 (sC_0 hG) (by decide) rfl rfl dX3_mass_1 ?_
  refine fr_iload_n (pc := 4) O 1 dX3_mass_4 rfl rfl ?_
  refine fr_callVI (pc := 5) (st := []) O (tX0_hasWheel X.2.1 hG rg_1 h) mt_X0_hasWheel mv_X0_hasWheel m_417 cl_X0 rfl (sC_rig hG rg_1) rfl (by decide) rfl (Nat.le_of_ble_eq_true rfl) dX3_mass_5 (fun r5 σ5 h => ?_)
  refine fr_if_eq (pc := 8) (tgt := 19) O dX3_mass_8 (by decide) (fun c_8 => ?_) (fun c_8 => ?_)
  · have h := h.1 c_8
    exact kX3_mass_B19 hG O  h
  · have h := h.2 c_8
    refine fr_iload_n (pc := 11) O 2 dX3_mass_11 rfl rfl ?_
    refine fr_iload_n (pc := 12) O 3 dX3_mass_12 rfl rfl ?_
    refine fr_callSI (pc := 13) (st := []) O (tX3_asksBest X.2.1 hG  h) mt_X3_asksBest m_550 m_549 rfl (by decide) rfl (Nat.le_of_ble_eq_true rfl) dX3_mass_13 (fun r13 σ13 h => ?_)
    refine fr_if_ne (pc := 16) (tgt := 21) O dX3_mass_16 (by decide) (fun c_16 => ?_) (fun c_16 => ?_)
    · have h := h.1 c_16
      refine fr_iconst (pc := 21) O (v := (0 : Int32)) dX3_mass_21 (by decide) ?_
      refine fr_istore (pc := 22) O [1, 2, 3, 4, 0] (lv' := [(0, .ref (gad G 0)), (1, .int a1), (2, .int a2), (3, .int a3), (4, .int (0 : Int32))]) dX3_mass_22 (by decide) rfl ?_
      refine fr_iconst (pc := 24) O (v := (-1 : Int32)) dX3_mass_24 (by decide) ?_
      refine fr_istore (pc := 25) O [1, 2, 3, 4, 5, 0] (lv' := [(0, .ref (gad G 0)), (1, .int a1), (2, .int a2), (3, .int a3), (4, .int (0 : Int32)), (5, .int (-1 : Int32))]) dX3_mass_25 (by decide) rfl ?_
      refine fr_iconst (pc := 27) O (v := (1 : Int32)) dX3_mass_27 (by decide) ?_
      refine fr_istore (pc := 28) O [1, 2, 3, 4, 5, 6, 0] (lv' := [(0, .ref (gad G 0)), (1, .int a1), (2, .int a2), (3, .int a3), (4, .int (0 : Int32)), (5, .int (-1 : Int32)), (6, .int (1 : Int32))]) dX3_mass_28 (by decide) rfl ?_
      obtain ⟨n9, h⟩ := h
      exact kX3_mass_L30w hG O  h
    · have h := h.2 c_16
      exact kX3_mass_B19 hG O  h
theorem tX3_mass (l : Launch) {G : Gw} (hG : fw_IsC G) {a1 : Int32} {a2 : Int32} {a3 : Int32}  {σ : Mem} {post : Int32 → Mem → Prop} (h : qX3_mass a1 a2 a3 σ post) : fw_CI l G yX3_mass cX3_mass 7 .int 6 132 [.ref (gad G 0), .int a1, .int a2, .int a3] σ post := fw_ofI (sok_C hG) (by decide) (Nat.le_of_ble_eq_true rfl) (fun X O => kX3_mass hG O  h)
def qX3_kind_B19 (a1 : Int32) (a2 : Int32) (a3 : Int32) (post : Int32 → Mem → Prop) (σ : Mem) : Prop := post (-1 : Int32) σ
set_option maxRecDepth 20000 in
theorem kX3_kind_B19 {X : Cx} {G : Gw} (hG : fw_IsC G) (O : fw_Ok X G cX3_kind 7 RX3 6 132 (some .int)) {a1 : Int32} {a2 : Int32} {a3 : Int32} {post : Int32 → Mem → Prop}    {σ : Mem} (h : qX3_kind_B19 a1 a2 a3 post σ) : fw_At X G 7 (fw_QI X G post) 19 [(0, .ref (gad G 0)), (1, .int a1), (2, .int a2), (3, .int a3)] [] σ := by
  unfold qX3_kind_B19 at h
  refine fr_iconst (pc := 19) O (v := (-1 : Int32)) dX3_kind_19 (by decide) ?_
  exact fr_iret (pc := 20) O dX3_kind_20 h
def qX3_kind_B108 (a1 : Int32) (a2 : Int32) (a3 : Int32) (post : Int32 → Mem → Prop) (s0 : Int32) (σ : Mem) : Prop := post s0 σ
set_option maxRecDepth 20000 in
theorem kX3_kind_B108 {X : Cx} {G : Gw} (hG : fw_IsC G) (O : fw_Ok X G cX3_kind 7 RX3 6 132 (some .int)) {a1 : Int32} {a2 : Int32} {a3 : Int32} {post : Int32 → Mem → Prop}   {s0 : Int32} {σ : Mem} (h : qX3_kind_B108 a1 a2 a3 post s0 σ) : fw_At X G 7 (fw_QI X G post) 108 [(0, .ref (gad G 0)), (1, .int a1), (2, .int a2), (3, .int a3)] [.int s0] σ := by
  unfold qX3_kind_B108 at h
  exact fr_iret (pc := 108) O dX3_kind_108 h
def qX3_kind_B91 (a1 : Int32) (a2 : Int32) (a3 : Int32) (post : Int32 → Mem → Prop) (k30 : Int32 → Int32 → Int32 → Mem → Prop) (x4 : Int32) (x5 : Int32) (x6 : Int32) (σ : Mem) : Prop := (∀ y6_91 : Int32, y6_91 = x6 + (1 : Int32) → k30 x4 x5 y6_91 σ)
set_option maxRecDepth 20000 in
theorem kX3_kind_B91 {X : Cx} {G : Gw} (hG : fw_IsC G) (O : fw_Ok X G cX3_kind 7 RX3 6 132 (some .int)) {a1 : Int32} {a2 : Int32} {a3 : Int32} {post : Int32 → Mem → Prop} {k30 : Int32 → Int32 → Int32 → Mem → Prop}  (hk30 : ∀ (x4 : Int32) (x5 : Int32) (x6 : Int32) (σ : Mem), k30 x4 x5 x6 σ → fw_At X G 7 (fw_QI X G post) 30 [(0, .ref (gad G 0)), (1, .int a1), (2, .int a2), (3, .int a3), (4, .int x4), (5, .int x5), (6, .int x6)] [] σ) {x4 : Int32} {x5 : Int32} {x6 : Int32} {σ : Mem} (h : qX3_kind_B91 a1 a2 a3 post k30 x4 x5 x6 σ) : fw_At X G 7 (fw_QI X G post) 91 [(0, .ref (gad G 0)), (1, .int a1), (2, .int a2), (3, .int a3), (4, .int x4), (5, .int x5), (6, .int x6)] [] σ := by
  unfold qX3_kind_B91 at h
  refine fr_iinc (pc := 91) O 6 [1, 2, 3, 4, 5, 6, 0] (w := (1 : Int32)) (lvF := fun y6_91 => [(0, .ref (gad G 0)), (1, .int a1), (2, .int a2), (3, .int a3), (4, .int x4), (5, .int x5), (6, .int y6_91)]) dX3_kind_91 rfl (by decide) (by decide) (fun _ => rfl) (fun y6_91 e_y6_91 => ?_)
  have h := h y6_91 e_y6_91
  refine fr_goto (pc := 94) (tgt := 30) O dX3_kind_94 (by decide) ?_
  exact hk30 _ _ _ _ h
def qX3_kind_L30 (a1 : Int32) (a2 : Int32) (a3 : Int32) (post : Int32 → Mem → Prop) (k30 : Int32 → Int32 → Int32 → Mem → Prop) (x4 : Int32) (x5 : Int32) (x6 : Int32) (σ : Mem) : Prop := (((3 : Int32) < x6 → ((¬ a3 = 0 → qX3_kind_B108 a1 a2 a3 post x5 σ) ∧ (a3 = 0 → qX3_kind_B108 a1 a2 a3 post x4 σ))) ∧ (¬ (3 : Int32) < x6 → (qX0_startAs 7 1 σ (fun σ44 => (vp_in a1 4 ∧ (∀ σ57 : Mem, σ57 = up2 σ44 8 a1.toNatClampNeg x6 → (qX0_runTicks 7 a2 σ57 (fun σ63 => (((σ63 7 10) ≤ x5 → qX3_kind_B91 a1 a2 a3 post k30 x4 x5 x6 σ63) ∧ (¬ (σ63 7 10) ≤ x5 → (∀ y5_85 : Int32, y5_85 = σ63 7 10 → qX3_kind_B91 a1 a2 a3 post k30 x6 y5_85 x6 σ63)))))))))))
set_option maxRecDepth 20000 in
theorem kX3_kind_L30 {X : Cx} {G : Gw} (hG : fw_IsC G) (O : fw_Ok X G cX3_kind 7 RX3 6 132 (some .int)) {a1 : Int32} {a2 : Int32} {a3 : Int32} {post : Int32 → Mem → Prop} {k30 : Int32 → Int32 → Int32 → Mem → Prop}  (hk30 : ∀ (x4 : Int32) (x5 : Int32) (x6 : Int32) (σ : Mem), k30 x4 x5 x6 σ → fw_At X G 7 (fw_QI X G post) 30 [(0, .ref (gad G 0)), (1, .int a1), (2, .int a2), (3, .int a3), (4, .int x4), (5, .int x5), (6, .int x6)] [] σ) {x4 : Int32} {x5 : Int32} {x6 : Int32} {σ : Mem} (h : qX3_kind_L30 a1 a2 a3 post k30 x4 x5 x6 σ) : fw_At X G 7 (fw_QI X G post) 30 [(0, .ref (gad G 0)), (1, .int a1), (2, .int a2), (3, .int a3), (4, .int x4), (5, .int x5), (6, .int x6)] [] σ := by
  unfold qX3_kind_L30 at h
  refine fr_iload (pc := 30) O 6 dX3_kind_30 rfl ?_
  refine fr_iconst (pc := 32) O (v := (3 : Int32)) dX3_kind_32 (by decide) ?_
  refine fr_icmp_gt (pc := 33) (tgt := 97) O dX3_kind_33 (by decide) (fun c_33 => ?_) (fun c_33 => ?_)
  · have h := h.1 c_33
    refine fr_iload_n (pc := 97) O 3 dX3_kind_97 rfl rfl ?_
    refine fr_if_ne (pc := 98) (tgt := 106) O dX3_kind_98 (by decide) (fun c_98 => ?_) (fun c_98 => ?_)
    · have h := h.1 c_98
      refine fr_iload (pc := 106) O 5 dX3_kind_106 rfl ?_
      refine fw_sub (lv' := [(0, .ref (gad G 0)), (1, .int a1), (2, .int a2), (3, .int a3)]) [0, 1, 2, 3] rfl ?_
      exact kX3_kind_B108 hG O  h
    · have h := h.2 c_98
      refine fr_iload (pc := 101) O 4 dX3_kind_101 rfl ?_
      refine fr_goto (pc := 103) (tgt := 108) O dX3_kind_103 (by decide) ?_
      refine fw_sub (lv' := [(0, .ref (gad G 0)), (1, .int a1), (2, .int a2), (3, .int a3)]) [0, 1, 2, 3] rfl ?_
      exact kX3_kind_B108 hG O  h
  · have h := h.2 c_33
    refine fr_aload_n (pc := 36) O 0 dX3_kind_36 rfl rfl ?_
    refine fr_get (pc := 37) (k := 1) (v := .ref (gad G 7)) O cl_X3 m_191 (sC_0 hG) (by decide) rfl rfl dX3_kind_37 ?_
    refine fr_aload_n (pc := 40) O 0 dX3_kind_40 rfl rfl ?_
    refine fr_get (pc := 41) (k := 0) (v := .ref (gad G 1)) O cl_X3 m_190 (sC_0 hG) (by decide) rfl rfl dX3_kind_41 ?_
    refine fr_callVV (pc := 44) (st := []) O (tX0_startAs X.2.1 hG rg_7 rg_1 h) mt_X0_startAs mv_X0_startAs m_513 cl_X0 rfl (sC_rig hG rg_7) rfl (by decide) rfl (Nat.le_of_ble_eq_true rfl) dX3_kind_44 (fun σ44 h => ?_)
    refine fr_aload_n (pc := 47) O 0 dX3_kind_47 rfl rfl ?_
    refine fr_get (pc := 48) (k := 1) (v := .ref (gad G 7)) O cl_X3 m_191 (sC_0 hG) (by decide) rfl rfl dX3_kind_48 ?_
    refine fr_get (pc := 51) (k := 3) (v := .ref (gad G 8)) O cl_X0 m_83 (sC_rig hG rg_7) (by decide) rfl rfl dX3_kind_51 ?_
    refine fr_iload_n (pc := 54) O 1 dX3_kind_54 rfl rfl ?_
    refine fr_iload (pc := 55) O 6 dX3_kind_55 rfl ?_
    have hi_57 := h.1
    have h := h.2
    refine fr_iast (pc := 57) O (sC_r1 hG rg_7) hi_57 dX3_kind_57 (fun σ57 e_σ57 => ?_)
    have h := h σ57 e_σ57
    refine fr_aload_n (pc := 58) O 0 dX3_kind_58 rfl rfl ?_
    refine fr_get (pc := 59) (k := 1) (v := .ref (gad G 7)) O cl_X3 m_191 (sC_0 hG) (by decide) rfl rfl dX3_kind_59 ?_
    refine fr_iload_n (pc := 62) O 2 dX3_kind_62 rfl rfl ?_
    refine fr_callVV (pc := 63) (st := []) O (tX0_runTicks X.2.1 hG rg_7 h) mt_X0_runTicks mv_X0_runTicks m_499 cl_X0 rfl (sC_rig hG rg_7) rfl (by decide) rfl (Nat.le_of_ble_eq_true rfl) dX3_kind_63 (fun σ63 h => ?_)
    refine fr_aload_n (pc := 66) O 0 dX3_kind_66 rfl rfl ?_
    refine fr_get (pc := 67) (k := 1) (v := .ref (gad G 7)) O cl_X3 m_191 (sC_0 hG) (by decide) rfl rfl dX3_kind_67 ?_
    refine fr_get (pc := 70) (k := 10) (v := .int (σ63 7 10)) O cl_X0 m_98 (sC_rig hG rg_7) (by decide) rfl rfl dX3_kind_70 ?_
    refine fr_iload (pc := 73) O 5 dX3_kind_73 rfl ?_
    refine fr_icmp_le (pc := 75) (tgt := 91) O dX3_kind_75 (by decide) (fun c_75 => ?_) (fun c_75 => ?_)
    · have h := h.1 c_75
      exact kX3_kind_B91 hG O hk30 h
    · have h := h.2 c_75
      refine fr_aload_n (pc := 78) O 0 dX3_kind_78 rfl rfl ?_
      refine fr_get (pc := 79) (k := 1) (v := .ref (gad G 7)) O cl_X3 m_191 (sC_0 hG) (by decide) rfl rfl dX3_kind_79 ?_
      refine fr_get (pc := 82) (k := 10) (v := .int (σ63 7 10)) O cl_X0 m_98 (sC_rig hG rg_7) (by decide) rfl rfl dX3_kind_82 ?_
      refine fr_nm (fun y5_85 e_y5_85 => ?_)
      have h := h y5_85 e_y5_85
      refine fr_istore (pc := 85) O [1, 2, 3, 4, 5, 0, 6] (lv' := [(0, .ref (gad G 0)), (1, .int a1), (2, .int a2), (3, .int a3), (4, .int x4), (5, .int y5_85), (6, .int x6)]) dX3_kind_85 (by decide) rfl ?_
      refine fr_iload (pc := 87) O 6 dX3_kind_87 rfl ?_
      refine fr_istore (pc := 89) O [1, 2, 3, 4, 0, 5, 6] (lv' := [(0, .ref (gad G 0)), (1, .int a1), (2, .int a2), (3, .int a3), (4, .int x6), (5, .int y5_85), (6, .int x6)]) dX3_kind_89 (by decide) rfl ?_
      exact kX3_kind_B91 hG O hk30 h
set_option maxRecDepth 20000 in
theorem kX3_kind_L30w {X : Cx} {G : Gw} (hG : fw_IsC G) (O : fw_Ok X G cX3_kind 7 RX3 6 132 (some .int)) {a1 : Int32} {a2 : Int32} {a3 : Int32} {post : Int32 → Mem → Prop}   {n9 : Nat} {x4 : Int32} {x5 : Int32} {x6 : Int32} {σ : Mem} (h : it3 (qX3_kind_L30 a1 a2 a3 post) n9 x4 x5 x6 σ) : fw_At X G 7 (fw_QI X G post) 30 [(0, .ref (gad G 0)), (1, .int a1), (2, .int a2), (3, .int a3), (4, .int x4), (5, .int x5), (6, .int x6)] [] σ :=
  it3_walk (T := fun x4 x5 x6 σ => fw_At X G 7 (fw_QI X G post) 30 [(0, .ref (gad G 0)), (1, .int a1), (2, .int a2), (3, .int a3), (4, .int x4), (5, .int x5), (6, .int x6)] [] σ) (fun k30 hk30 x4 x5 x6 σ h => kX3_kind_L30 hG O hk30 h) n9 x4 x5 x6 σ h
def qX3_kind (a1 : Int32) (a2 : Int32) (a3 : Int32) (σ : Mem) (post : Int32 → Mem → Prop) : Prop := (qX0_hasWheel 1 a1 σ (fun r5 σ5 => ((r5 = 0 → qX3_kind_B19 a1 a2 a3 post σ5) ∧ (¬ r5 = 0 → (qX3_asksBest a2 a3 σ5 (fun r13 σ13 => ((¬ r13 = 0 → ∃ n9, it3 (qX3_kind_L30 a1 a2 a3 post) n9 (0 : Int32) (-1 : Int32) (0 : Int32) σ13) ∧ (r13 = 0 → qX3_kind_B19 a1 a2 a3 post σ13))))))))
set_option maxRecDepth 20000 in
theorem kX3_kind {X : Cx} {G : Gw} (hG : fw_IsC G) (O : fw_Ok X G cX3_kind 7 RX3 6 132 (some .int)) {a1 : Int32} {a2 : Int32} {a3 : Int32}  {σ : Mem} {post : Int32 → Mem → Prop} (h : qX3_kind a1 a2 a3 σ post) : fw_At X G 7 (fw_QI X G post) 0 [(0, .ref (gad G 0)), (1, .int a1), (2, .int a2), (3, .int a3)] [] σ := by
  unfold qX3_kind at h
  refine fr_aload_n (pc := 0) O 0 dX3_kind_0 rfl rfl ?_
  refine fr_get (pc := 1) (k := 0) (v := .ref (gad G 1)) O cl_X3 m_190 (sC_0 hG) (by decide) rfl rfl dX3_kind_1 ?_
  refine fr_iload_n (pc := 4) O 1 dX3_kind_4 rfl rfl ?_
  refine fr_callVI (pc := 5) (st := []) O (tX0_hasWheel X.2.1 hG rg_1 h) mt_X0_hasWheel mv_X0_hasWheel m_417 cl_X0 rfl (sC_rig hG rg_1) rfl (by decide) rfl (Nat.le_of_ble_eq_true rfl) dX3_kind_5 (fun r5 σ5 h => ?_)
  refine fr_if_eq (pc := 8) (tgt := 19) O dX3_kind_8 (by decide) (fun c_8 => ?_) (fun c_8 => ?_)
  · have h := h.1 c_8
    exact kX3_kind_B19 hG O  h
  · have h := h.2 c_8
    refine fr_iload_n (pc := 11) O 2 dX3_kind_11 rfl rfl ?_
    refine fr_iload_n (pc := 12) O 3 dX3_kind_12 rfl rfl ?_
    refine fr_callSI (pc := 13) (st := []) O (tX3_asksBest X.2.1 hG  h) mt_X3_asksBest m_550 m_549 rfl (by decide) rfl (Nat.le_of_ble_eq_true rfl) dX3_kind_13 (fun r13 σ13 h => ?_)
    refine fr_if_ne (pc := 16) (tgt := 21) O dX3_kind_16 (by decide) (fun c_16 => ?_) (fun c_16 => ?_)
    · have h := h.1 c_16
      refine fr_iconst (pc := 21) O (v := (0 : Int32)) dX3_kind_21 (by decide) ?_
      refine fr_istore (pc := 22) O [1, 2, 3, 4, 0] (lv' := [(0, .ref (gad G 0)), (1, .int a1), (2, .int a2), (3, .int a3), (4, .int (0 : Int32))]) dX3_kind_22 (by decide) rfl ?_
      refine fr_iconst (pc := 24) O (v := (-1 : Int32)) dX3_kind_24 (by decide) ?_
      refine fr_istore (pc := 25) O [1, 2, 3, 4, 5, 0] (lv' := [(0, .ref (gad G 0)), (1, .int a1), (2, .int a2), (3, .int a3), (4, .int (0 : Int32)), (5, .int (-1 : Int32))]) dX3_kind_25 (by decide) rfl ?_
      refine fr_iconst (pc := 27) O (v := (0 : Int32)) dX3_kind_27 (by decide) ?_
      refine fr_istore (pc := 28) O [1, 2, 3, 4, 5, 6, 0] (lv' := [(0, .ref (gad G 0)), (1, .int a1), (2, .int a2), (3, .int a3), (4, .int (0 : Int32)), (5, .int (-1 : Int32)), (6, .int (0 : Int32))]) dX3_kind_28 (by decide) rfl ?_
      obtain ⟨n9, h⟩ := h
      exact kX3_kind_L30w hG O  h
    · have h := h.2 c_16
      exact kX3_kind_B19 hG O  h
theorem tX3_kind (l : Launch) {G : Gw} (hG : fw_IsC G) {a1 : Int32} {a2 : Int32} {a3 : Int32}  {σ : Mem} {post : Int32 → Mem → Prop} (h : qX3_kind a1 a2 a3 σ post) : fw_CI l G yX3_kind cX3_kind 7 .int 6 132 [.ref (gad G 0), .int a1, .int a2, .int a3] σ post := fw_ofI (sok_C hG) (by decide) (Nat.le_of_ble_eq_true rfl) (fun X O => kX3_kind hG O  h)
def qX3_bears_B22 (a1 : Int32) (a2 : Int32) (post : Int32 → Mem → Prop) (σ : Mem) : Prop := post (-1 : Int32) σ
set_option maxRecDepth 20000 in
theorem kX3_bears_B22 {X : Cx} {G : Gw} (hG : fw_IsC G) (O : fw_Ok X G cX3_bears 4 RX3 6 132 (some .int)) {a1 : Int32} {a2 : Int32} {post : Int32 → Mem → Prop}    {σ : Mem} (h : qX3_bears_B22 a1 a2 post σ) : fw_At X G 4 (fw_QI X G post) 22 [(0, .ref (gad G 0)), (1, .int a1), (2, .int a2)] [] σ := by
  unfold qX3_bears_B22 at h
  refine fr_iconst (pc := 22) O (v := (-1 : Int32)) dX3_bears_22 (by decide) ?_
  exact fr_iret (pc := 23) O dX3_bears_23 h
def qX3_bears_L27 (a1 : Int32) (a2 : Int32) (post : Int32 → Mem → Prop) (k27 : Int32 → Mem → Prop) (x3 : Int32) (σ : Mem) : Prop := ((x3 < 0 → post (-4 : Int32) σ) ∧ (¬ x3 < 0 → (qX0_startAs 7 1 σ (fun σ39 => (vp_in a1 4 ∧ (∀ σ51 : Mem, σ51 = up2 σ39 10 a1.toNatClampNeg x3 → (qX0_runTicks 7 a2 σ51 (fun σ57 => ((¬ (σ57 7 11) = 0 → (∀ y3_72 : Int32, y3_72 = x3 + (-1 : Int32) → k27 y3_72 σ57)) ∧ ((σ57 7 11) = 0 → post x3 σ57))))))))))
set_option maxRecDepth 20000 in
theorem kX3_bears_L27 {X : Cx} {G : Gw} (hG : fw_IsC G) (O : fw_Ok X G cX3_bears 4 RX3 6 132 (some .int)) {a1 : Int32} {a2 : Int32} {post : Int32 → Mem → Prop} {k27 : Int32 → Mem → Prop}  (hk27 : ∀ (x3 : Int32) (σ : Mem), k27 x3 σ → fw_At X G 4 (fw_QI X G post) 27 [(0, .ref (gad G 0)), (1, .int a1), (2, .int a2), (3, .int x3)] [] σ) {x3 : Int32} {σ : Mem} (h : qX3_bears_L27 a1 a2 post k27 x3 σ) : fw_At X G 4 (fw_QI X G post) 27 [(0, .ref (gad G 0)), (1, .int a1), (2, .int a2), (3, .int x3)] [] σ := by
  unfold qX3_bears_L27 at h
  refine fr_iload_n (pc := 27) O 3 dX3_bears_27 rfl rfl ?_
  refine fr_if_lt (pc := 28) (tgt := 78) O dX3_bears_28 (by decide) (fun c_28 => ?_) (fun c_28 => ?_)
  · have h := h.1 c_28
    refine fr_bipush (pc := 78) O (v := (-4 : Int32)) dX3_bears_78 (by decide) ?_
    exact fr_iret (pc := 80) O dX3_bears_80 h
  · have h := h.2 c_28
    refine fr_aload_n (pc := 31) O 0 dX3_bears_31 rfl rfl ?_
    refine fr_get (pc := 32) (k := 1) (v := .ref (gad G 7)) O cl_X3 m_191 (sC_0 hG) (by decide) rfl rfl dX3_bears_32 ?_
    refine fr_aload_n (pc := 35) O 0 dX3_bears_35 rfl rfl ?_
    refine fr_get (pc := 36) (k := 0) (v := .ref (gad G 1)) O cl_X3 m_190 (sC_0 hG) (by decide) rfl rfl dX3_bears_36 ?_
    refine fr_callVV (pc := 39) (st := []) O (tX0_startAs X.2.1 hG rg_7 rg_1 h) mt_X0_startAs mv_X0_startAs m_513 cl_X0 rfl (sC_rig hG rg_7) rfl (by decide) rfl (Nat.le_of_ble_eq_true rfl) dX3_bears_39 (fun σ39 h => ?_)
    refine fr_aload_n (pc := 42) O 0 dX3_bears_42 rfl rfl ?_
    refine fr_get (pc := 43) (k := 1) (v := .ref (gad G 7)) O cl_X3 m_191 (sC_0 hG) (by decide) rfl rfl dX3_bears_43 ?_
    refine fr_get (pc := 46) (k := 5) (v := .ref (gad G 10)) O cl_X0 m_87 (sC_rig hG rg_7) (by decide) rfl rfl dX3_bears_46 ?_
    refine fr_iload_n (pc := 49) O 1 dX3_bears_49 rfl rfl ?_
    refine fr_iload_n (pc := 50) O 3 dX3_bears_50 rfl rfl ?_
    have hi_51 := h.1
    have h := h.2
    refine fr_iast (pc := 51) O (sC_r3 hG rg_7) hi_51 dX3_bears_51 (fun σ51 e_σ51 => ?_)
    have h := h σ51 e_σ51
    refine fr_aload_n (pc := 52) O 0 dX3_bears_52 rfl rfl ?_
    refine fr_get (pc := 53) (k := 1) (v := .ref (gad G 7)) O cl_X3 m_191 (sC_0 hG) (by decide) rfl rfl dX3_bears_53 ?_
    refine fr_iload_n (pc := 56) O 2 dX3_bears_56 rfl rfl ?_
    refine fr_callVV (pc := 57) (st := []) O (tX0_runTicks X.2.1 hG rg_7 h) mt_X0_runTicks mv_X0_runTicks m_499 cl_X0 rfl (sC_rig hG rg_7) rfl (by decide) rfl (Nat.le_of_ble_eq_true rfl) dX3_bears_57 (fun σ57 h => ?_)
    refine fr_aload_n (pc := 60) O 0 dX3_bears_60 rfl rfl ?_
    refine fr_get (pc := 61) (k := 1) (v := .ref (gad G 7)) O cl_X3 m_191 (sC_0 hG) (by decide) rfl rfl dX3_bears_61 ?_
    refine fr_get (pc := 64) (k := 11) (v := .int (σ57 7 11)) O cl_X0 m_100 (sC_rig hG rg_7) (by decide) rfl rfl dX3_bears_64 ?_
    refine fr_if_ne (pc := 67) (tgt := 72) O dX3_bears_67 (by decide) (fun c_67 => ?_) (fun c_67 => ?_)
    · have h := h.1 c_67
      refine fr_iinc (pc := 72) O 3 [1, 2, 3, 0] (w := (-1 : Int32)) (lvF := fun y3_72 => [(0, .ref (gad G 0)), (1, .int a1), (2, .int a2), (3, .int y3_72)]) dX3_bears_72 rfl (by decide) (by decide) (fun _ => rfl) (fun y3_72 e_y3_72 => ?_)
      have h := h y3_72 e_y3_72
      refine fr_goto (pc := 75) (tgt := 27) O dX3_bears_75 (by decide) ?_
      exact hk27 _ _ h
    · have h := h.2 c_67
      refine fr_iload_n (pc := 70) O 3 dX3_bears_70 rfl rfl ?_
      exact fr_iret (pc := 71) O dX3_bears_71 h
set_option maxRecDepth 20000 in
theorem kX3_bears_L27w {X : Cx} {G : Gw} (hG : fw_IsC G) (O : fw_Ok X G cX3_bears 4 RX3 6 132 (some .int)) {a1 : Int32} {a2 : Int32} {post : Int32 → Mem → Prop}   {n9 : Nat} {x3 : Int32} {σ : Mem} (h : it1 (qX3_bears_L27 a1 a2 post) n9 x3 σ) : fw_At X G 4 (fw_QI X G post) 27 [(0, .ref (gad G 0)), (1, .int a1), (2, .int a2), (3, .int x3)] [] σ :=
  it1_walk (T := fun x3 σ => fw_At X G 4 (fw_QI X G post) 27 [(0, .ref (gad G 0)), (1, .int a1), (2, .int a2), (3, .int x3)] [] σ) (fun k27 hk27 x3 σ h => kX3_bears_L27 hG O hk27 h) n9 x3 σ h
def qX3_bears (a1 : Int32) (a2 : Int32) (σ : Mem) (post : Int32 → Mem → Prop) : Prop := (qX0_hasWheel 1 a1 σ (fun r5 σ5 => ((r5 = 0 → qX3_bears_B22 a1 a2 post σ5) ∧ (¬ r5 = 0 → (qX3_within a2 (0 : Int32) (200 : Int32) σ5 (fun r16 σ16 => ((¬ r16 = 0 → ∃ n9, it1 (qX3_bears_L27 a1 a2 post) n9 (9 : Int32) σ16) ∧ (r16 = 0 → qX3_bears_B22 a1 a2 post σ16))))))))
set_option maxRecDepth 20000 in
theorem kX3_bears {X : Cx} {G : Gw} (hG : fw_IsC G) (O : fw_Ok X G cX3_bears 4 RX3 6 132 (some .int)) {a1 : Int32} {a2 : Int32}  {σ : Mem} {post : Int32 → Mem → Prop} (h : qX3_bears a1 a2 σ post) : fw_At X G 4 (fw_QI X G post) 0 [(0, .ref (gad G 0)), (1, .int a1), (2, .int a2)] [] σ := by
  unfold qX3_bears at h
  refine fr_aload_n (pc := 0) O 0 dX3_bears_0 rfl rfl ?_
  refine fr_get (pc := 1) (k := 0) (v := .ref (gad G 1)) O cl_X3 m_190 (sC_0 hG) (by decide) rfl rfl dX3_bears_1 ?_
  refine fr_iload_n (pc := 4) O 1 dX3_bears_4 rfl rfl ?_
  refine fr_callVI (pc := 5) (st := []) O (tX0_hasWheel X.2.1 hG rg_1 h) mt_X0_hasWheel mv_X0_hasWheel m_417 cl_X0 rfl (sC_rig hG rg_1) rfl (by decide) rfl (Nat.le_of_ble_eq_true rfl) dX3_bears_5 (fun r5 σ5 h => ?_)
  refine fr_if_eq (pc := 8) (tgt := 22) O dX3_bears_8 (by decide) (fun c_8 => ?_) (fun c_8 => ?_)
  · have h := h.1 c_8
    exact kX3_bears_B22 hG O  h
  · have h := h.2 c_8
    refine fr_iload_n (pc := 11) O 2 dX3_bears_11 rfl rfl ?_
    refine fr_iconst (pc := 12) O (v := (0 : Int32)) dX3_bears_12 (by decide) ?_
    refine fr_sipush (pc := 13) O (v := (200 : Int32)) dX3_bears_13 (by decide) ?_
    refine fr_callSI (pc := 16) (st := []) O (tX3_within X.2.1 hG  h) mt_X3_within m_238 m_237 rfl (by decide) rfl (Nat.le_of_ble_eq_true rfl) dX3_bears_16 (fun r16 σ16 h => ?_)
    refine fr_if_ne (pc := 19) (tgt := 24) O dX3_bears_19 (by decide) (fun c_19 => ?_) (fun c_19 => ?_)
    · have h := h.1 c_19
      refine fr_bipush (pc := 24) O (v := (9 : Int32)) dX3_bears_24 (by decide) ?_
      refine fr_istore_n (pc := 26) O [1, 2, 3, 0] (lv' := [(0, .ref (gad G 0)), (1, .int a1), (2, .int a2), (3, .int (9 : Int32))]) dX3_bears_26 rfl (by decide) rfl ?_
      obtain ⟨n9, h⟩ := h
      exact kX3_bears_L27w hG O  h
    · have h := h.2 c_19
      exact kX3_bears_B22 hG O  h
theorem tX3_bears (l : Launch) {G : Gw} (hG : fw_IsC G) {a1 : Int32} {a2 : Int32}  {σ : Mem} {post : Int32 → Mem → Prop} (h : qX3_bears a1 a2 σ post) : fw_CI l G yX3_bears cX3_bears 4 .int 6 132 [.ref (gad G 0), .int a1, .int a2] σ post := fw_ofI (sok_C hG) (by decide) (Nat.le_of_ble_eq_true rfl) (fun X O => kX3_bears hG O  h)
def qX3_doneAsItIs (a1 : Int32) (σ : Mem) (post : Int32 → Mem → Prop) : Prop := (qX0_startAs 7 1 σ (fun σ8 => (qX0_runTicks 7 a1 σ8 (fun σ16 => post (σ16 7 10) σ16))))
set_option maxRecDepth 20000 in
theorem kX3_doneAsItIs {X : Cx} {G : Gw} (hG : fw_IsC G) (O : fw_Ok X G cX3_doneAsItIs 2 RX3 6 132 (some .int)) {a1 : Int32}  {σ : Mem} {post : Int32 → Mem → Prop} (h : qX3_doneAsItIs a1 σ post) : fw_At X G 2 (fw_QI X G post) 0 [(0, .ref (gad G 0)), (1, .int a1)] [] σ := by
  unfold qX3_doneAsItIs at h
  refine fr_aload_n (pc := 0) O 0 dX3_doneAsItIs_0 rfl rfl ?_
  refine fr_get (pc := 1) (k := 1) (v := .ref (gad G 7)) O cl_X3 m_191 (sC_0 hG) (by decide) rfl rfl dX3_doneAsItIs_1 ?_
  refine fr_aload_n (pc := 4) O 0 dX3_doneAsItIs_4 rfl rfl ?_
  refine fr_get (pc := 5) (k := 0) (v := .ref (gad G 1)) O cl_X3 m_190 (sC_0 hG) (by decide) rfl rfl dX3_doneAsItIs_5 ?_
  refine fr_callVV (pc := 8) (st := []) O (tX0_startAs X.2.1 hG rg_7 rg_1 h) mt_X0_startAs mv_X0_startAs m_513 cl_X0 rfl (sC_rig hG rg_7) rfl (by decide) rfl (Nat.le_of_ble_eq_true rfl) dX3_doneAsItIs_8 (fun σ8 h => ?_)
  refine fr_aload_n (pc := 11) O 0 dX3_doneAsItIs_11 rfl rfl ?_
  refine fr_get (pc := 12) (k := 1) (v := .ref (gad G 7)) O cl_X3 m_191 (sC_0 hG) (by decide) rfl rfl dX3_doneAsItIs_12 ?_
  refine fr_iload_n (pc := 15) O 1 dX3_doneAsItIs_15 rfl rfl ?_
  refine fr_callVV (pc := 16) (st := []) O (tX0_runTicks X.2.1 hG rg_7 h) mt_X0_runTicks mv_X0_runTicks m_499 cl_X0 rfl (sC_rig hG rg_7) rfl (by decide) rfl (Nat.le_of_ble_eq_true rfl) dX3_doneAsItIs_16 (fun σ16 h => ?_)
  refine fr_aload_n (pc := 19) O 0 dX3_doneAsItIs_19 rfl rfl ?_
  refine fr_get (pc := 20) (k := 1) (v := .ref (gad G 7)) O cl_X3 m_191 (sC_0 hG) (by decide) rfl rfl dX3_doneAsItIs_20 ?_
  refine fr_get (pc := 23) (k := 10) (v := .int (σ16 7 10)) O cl_X0 m_98 (sC_rig hG rg_7) (by decide) rfl rfl dX3_doneAsItIs_23 ?_
  exact fr_iret (pc := 26) O dX3_doneAsItIs_26 h
theorem tX3_doneAsItIs (l : Launch) {G : Gw} (hG : fw_IsC G) {a1 : Int32}  {σ : Mem} {post : Int32 → Mem → Prop} (h : qX3_doneAsItIs a1 σ post) : fw_CI l G yX3_doneAsItIs cX3_doneAsItIs 2 .int 6 132 [.ref (gad G 0), .int a1] σ post := fw_ofI (sok_C hG) (by decide) (Nat.le_of_ble_eq_true rfl) (fun X O => kX3_doneAsItIs hG O  h)
def qX3_doneSwapped (a1 : Int32) (a2 : Int32) (a3 : Int32) (σ : Mem) (post : Int32 → Mem → Prop) : Prop := (qX0_startAs 7 1 σ (fun σ8 => (vp_in a2 16 ∧ (vp_in a1 16 ∧ (∀ σ28 : Mem, σ28 = up2 σ8 12 a1.toNatClampNeg (σ8 6 a2.toNatClampNeg) → (∀ σ46 : Mem, σ46 = up2 σ28 12 a2.toNatClampNeg (σ28 6 a1.toNatClampNeg) → (qX0_runTicks 7 a3 σ46 (fun σ52 => post (σ52 7 10) σ52))))))))
set_option maxRecDepth 20000 in
theorem kX3_doneSwapped {X : Cx} {G : Gw} (hG : fw_IsC G) (O : fw_Ok X G cX3_doneSwapped 4 RX3 6 132 (some .int)) {a1 : Int32} {a2 : Int32} {a3 : Int32}  {σ : Mem} {post : Int32 → Mem → Prop} (h : qX3_doneSwapped a1 a2 a3 σ post) : fw_At X G 4 (fw_QI X G post) 0 [(0, .ref (gad G 0)), (1, .int a1), (2, .int a2), (3, .int a3)] [] σ := by
  unfold qX3_doneSwapped at h
  refine fr_aload_n (pc := 0) O 0 dX3_doneSwapped_0 rfl rfl ?_
  refine fr_get (pc := 1) (k := 1) (v := .ref (gad G 7)) O cl_X3 m_191 (sC_0 hG) (by decide) rfl rfl dX3_doneSwapped_1 ?_
  refine fr_aload_n (pc := 4) O 0 dX3_doneSwapped_4 rfl rfl ?_
  refine fr_get (pc := 5) (k := 0) (v := .ref (gad G 1)) O cl_X3 m_190 (sC_0 hG) (by decide) rfl rfl dX3_doneSwapped_5 ?_
  refine fr_callVV (pc := 8) (st := []) O (tX0_startAs X.2.1 hG rg_7 rg_1 h) mt_X0_startAs mv_X0_startAs m_513 cl_X0 rfl (sC_rig hG rg_7) rfl (by decide) rfl (Nat.le_of_ble_eq_true rfl) dX3_doneSwapped_8 (fun σ8 h => ?_)
  refine fr_aload_n (pc := 11) O 0 dX3_doneSwapped_11 rfl rfl ?_
  refine fr_get (pc := 12) (k := 1) (v := .ref (gad G 7)) O cl_X3 m_191 (sC_0 hG) (by decide) rfl rfl dX3_doneSwapped_12 ?_
  refine fr_get (pc := 15) (k := 8) (v := .ref (gad G 12)) O cl_X0 m_94 (sC_rig hG rg_7) (by decide) rfl rfl dX3_doneSwapped_15 ?_
  refine fr_iload_n (pc := 18) O 1 dX3_doneSwapped_18 rfl rfl ?_
  refine fr_aload_n (pc := 19) O 0 dX3_doneSwapped_19 rfl rfl ?_
  refine fr_get (pc := 20) (k := 0) (v := .ref (gad G 1)) O cl_X3 m_190 (sC_0 hG) (by decide) rfl rfl dX3_doneSwapped_20 ?_
  refine fr_get (pc := 23) (k := 8) (v := .ref (gad G 6)) O cl_X0 m_94 (sC_rig hG rg_1) (by decide) rfl rfl dX3_doneSwapped_23 ?_
  refine fr_iload_n (pc := 26) O 2 dX3_doneSwapped_26 rfl rfl ?_
  have hi_27 := h.1
  have h := h.2
  refine fr_iald (pc := 27) O (sC_r5 hG rg_1) hi_27 dX3_doneSwapped_27 ?_
  have hi_28 := h.1
  have h := h.2
  refine fr_iast (pc := 28) O (sC_r5 hG rg_7) hi_28 dX3_doneSwapped_28 (fun σ28 e_σ28 => ?_)
  have h := h σ28 e_σ28
  refine fr_aload_n (pc := 29) O 0 dX3_doneSwapped_29 rfl rfl ?_
  refine fr_get (pc := 30) (k := 1) (v := .ref (gad G 7)) O cl_X3 m_191 (sC_0 hG) (by decide) rfl rfl dX3_doneSwapped_30 ?_
  refine fr_get (pc := 33) (k := 8) (v := .ref (gad G 12)) O cl_X0 m_94 (sC_rig hG rg_7) (by decide) rfl rfl dX3_doneSwapped_33 ?_
  refine fr_iload_n (pc := 36) O 2 dX3_doneSwapped_36 rfl rfl ?_
  refine fr_aload_n (pc := 37) O 0 dX3_doneSwapped_37 rfl rfl ?_
  refine fr_get (pc := 38) (k := 0) (v := .ref (gad G 1)) O cl_X3 m_190 (sC_0 hG) (by decide) rfl rfl dX3_doneSwapped_38 ?_
  refine fr_get (pc := 41) (k := 8) (v := .ref (gad G 6)) O cl_X0 m_94 (sC_rig hG rg_1) (by decide) rfl rfl dX3_doneSwapped_41 ?_
  refine fr_iload_n (pc := 44) O 1 dX3_doneSwapped_44 rfl rfl ?_
  refine fr_iald (pc := 45) O (sC_r5 hG rg_1) hi_28 dX3_doneSwapped_45 ?_
  refine fr_iast (pc := 46) O (sC_r5 hG rg_7) hi_27 dX3_doneSwapped_46 (fun σ46 e_σ46 => ?_)
  have h := h σ46 e_σ46
  refine fr_aload_n (pc := 47) O 0 dX3_doneSwapped_47 rfl rfl ?_
  refine fr_get (pc := 48) (k := 1) (v := .ref (gad G 7)) O cl_X3 m_191 (sC_0 hG) (by decide) rfl rfl dX3_doneSwapped_48 ?_
  refine fr_iload_n (pc := 51) O 3 dX3_doneSwapped_51 rfl rfl ?_
  refine fr_callVV (pc := 52) (st := []) O (tX0_runTicks X.2.1 hG rg_7 h) mt_X0_runTicks mv_X0_runTicks m_499 cl_X0 rfl (sC_rig hG rg_7) rfl (by decide) rfl (Nat.le_of_ble_eq_true rfl) dX3_doneSwapped_52 (fun σ52 h => ?_)
  refine fr_aload_n (pc := 55) O 0 dX3_doneSwapped_55 rfl rfl ?_
  refine fr_get (pc := 56) (k := 1) (v := .ref (gad G 7)) O cl_X3 m_191 (sC_0 hG) (by decide) rfl rfl dX3_doneSwapped_56 ?_
  refine fr_get (pc := 59) (k := 10) (v := .int (σ52 7 10)) O cl_X0 m_98 (sC_rig hG rg_7) (by decide) rfl rfl dX3_doneSwapped_59 ?_
  exact fr_iret (pc := 62) O dX3_doneSwapped_62 h
theorem tX3_doneSwapped (l : Launch) {G : Gw} (hG : fw_IsC G) {a1 : Int32} {a2 : Int32} {a3 : Int32}  {σ : Mem} {post : Int32 → Mem → Prop} (h : qX3_doneSwapped a1 a2 a3 σ post) : fw_CI l G yX3_doneSwapped cX3_doneSwapped 4 .int 6 132 [.ref (gad G 0), .int a1, .int a2, .int a3] σ post := fw_ofI (sok_C hG) (by decide) (Nat.le_of_ble_eq_true rfl) (fun X O => kX3_doneSwapped hG O  h)
def qX3_swap_B135 (a1 : Int32) (a2 : Int32) (post : Int32 → Mem → Prop) (s0 : Int32) (σ : Mem) : Prop := post s0 σ
set_option maxRecDepth 20000 in
theorem kX3_swap_B135 {X : Cx} {G : Gw} (hG : fw_IsC G) (O : fw_Ok X G cX3_swap 8 RX3 7 155 (some .int)) {a1 : Int32} {a2 : Int32} {post : Int32 → Mem → Prop}   {s0 : Int32} {σ : Mem} (h : qX3_swap_B135 a1 a2 post s0 σ) : fw_At X G 8 (fw_QI X G post) 135 [(0, .ref (gad G 0)), (1, .int a1), (2, .int a2)] [.int s0] σ := by
  unfold qX3_swap_B135 at h
  exact fr_iret (pc := 135) O dX3_swap_135 h
def qX3_swap_B129 (a1 : Int32) (a2 : Int32) (post : Int32 → Mem → Prop) (x3 : Int32) (σ : Mem) : Prop := qX3_swap_B135 a1 a2 post x3 σ
set_option maxRecDepth 20000 in
theorem kX3_swap_B129 {X : Cx} {G : Gw} (hG : fw_IsC G) (O : fw_Ok X G cX3_swap 8 RX3 7 155 (some .int)) {a1 : Int32} {a2 : Int32} {post : Int32 → Mem → Prop}   {x3 : Int32} {σ : Mem} (h : qX3_swap_B129 a1 a2 post x3 σ) : fw_At X G 8 (fw_QI X G post) 129 [(0, .ref (gad G 0)), (1, .int a1), (2, .int a2), (3, .int x3)] [] σ := by
  unfold qX3_swap_B129 at h
  refine fr_iload_n (pc := 129) O 3 dX3_swap_129 rfl rfl ?_
  refine fr_goto (pc := 130) (tgt := 135) O dX3_swap_130 (by decide) ?_
  refine fw_sub (lv' := [(0, .ref (gad G 0)), (1, .int a1), (2, .int a2)]) [0, 1, 2] rfl ?_
  exact kX3_swap_B135 hG O  h
def qX3_swap_B107 (a1 : Int32) (a2 : Int32) (post : Int32 → Mem → Prop) (k23 : Int32 → Int32 → Int32 → Mem → Prop) (k41 : Int32 → Int32 → Int32 → Int32 → Mem → Prop) (x3 : Int32) (x4 : Int32) (x5 : Int32) (x6 : Int32) (σ : Mem) : Prop := (∀ y6_107 : Int32, y6_107 = x6 + (1 : Int32) → k41 x3 x4 x5 y6_107 σ)
set_option maxRecDepth 20000 in
theorem kX3_swap_B107 {X : Cx} {G : Gw} (hG : fw_IsC G) (O : fw_Ok X G cX3_swap 8 RX3 7 155 (some .int)) {a1 : Int32} {a2 : Int32} {post : Int32 → Mem → Prop} {k23 : Int32 → Int32 → Int32 → Mem → Prop} {k41 : Int32 → Int32 → Int32 → Int32 → Mem → Prop}  (hk23 : ∀ (x3 : Int32) (x4 : Int32) (x5 : Int32) (σ : Mem), k23 x3 x4 x5 σ → fw_At X G 8 (fw_QI X G post) 23 [(0, .ref (gad G 0)), (1, .int a1), (2, .int a2), (3, .int x3), (4, .int x4), (5, .int x5)] [] σ) (hk41 : ∀ (x3 : Int32) (x4 : Int32) (x5 : Int32) (x6 : Int32) (σ : Mem), k41 x3 x4 x5 x6 σ → fw_At X G 8 (fw_QI X G post) 41 [(0, .ref (gad G 0)), (1, .int a1), (2, .int a2), (3, .int x3), (4, .int x4), (5, .int x5), (6, .int x6)] [] σ) {x3 : Int32} {x4 : Int32} {x5 : Int32} {x6 : Int32} {σ : Mem} (h : qX3_swap_B107 a1 a2 post k23 k41 x3 x4 x5 x6 σ) : fw_At X G 8 (fw_QI X G post) 107 [(0, .ref (gad G 0)), (1, .int a1), (2, .int a2), (3, .int x3), (4, .int x4), (5, .int x5), (6, .int x6)] [] σ := by
  unfold qX3_swap_B107 at h
  refine fr_iinc (pc := 107) O 6 [1, 2, 3, 4, 5, 6, 0] (w := (1 : Int32)) (lvF := fun y6_107 => [(0, .ref (gad G 0)), (1, .int a1), (2, .int a2), (3, .int x3), (4, .int x4), (5, .int x5), (6, .int y6_107)]) dX3_swap_107 rfl (by decide) (by decide) (fun _ => rfl) (fun y6_107 e_y6_107 => ?_)
  have h := h y6_107 e_y6_107
  refine fr_goto (pc := 110) (tgt := 41) O dX3_swap_110 (by decide) ?_
  exact hk41 _ _ _ _ _ h
def qX3_swap_L41 (a1 : Int32) (a2 : Int32) (post : Int32 → Mem → Prop) (k23 : Int32 → Int32 → Int32 → Mem → Prop) (k41 : Int32 → Int32 → Int32 → Int32 → Mem → Prop) (x3 : Int32) (x4 : Int32) (x5 : Int32) (x6 : Int32) (σ : Mem) : Prop := (((σ 1 7) ≤ x6 → (∀ y5_113 : Int32, y5_113 = x5 + (1 : Int32) → k23 x3 x4 y5_113 σ)) ∧ (¬ (σ 1 7) ≤ x6 → (vp_in x5 16 ∧ (vp_in x6 16 ∧ (((σ 6 x5.toNatClampNeg) = (σ 6 x6.toNatClampNeg) → qX3_swap_B107 a1 a2 post k23 k41 x3 x4 x5 x6 σ) ∧ (¬ (σ 6 x5.toNatClampNeg) = (σ 6 x6.toNatClampNeg) → (qX3_doneSwapped x5 x6 a1 σ (fun r82 σ82 => ((r82 ≤ x4 → qX3_swap_B107 a1 a2 post k23 k41 x3 x4 x5 x6 σ82) ∧ (¬ r82 ≤ x4 → (∀ y3_106 : Int32, y3_106 = ((100 : Int32) * x5) + x6 → qX3_swap_B107 a1 a2 post k23 k41 y3_106 r82 x5 x6 σ82)))))))))))
set_option maxRecDepth 20000 in
theorem kX3_swap_L41 {X : Cx} {G : Gw} (hG : fw_IsC G) (O : fw_Ok X G cX3_swap 8 RX3 7 155 (some .int)) {a1 : Int32} {a2 : Int32} {post : Int32 → Mem → Prop} {k23 : Int32 → Int32 → Int32 → Mem → Prop} {k41 : Int32 → Int32 → Int32 → Int32 → Mem → Prop}  (hk23 : ∀ (x3 : Int32) (x4 : Int32) (x5 : Int32) (σ : Mem), k23 x3 x4 x5 σ → fw_At X G 8 (fw_QI X G post) 23 [(0, .ref (gad G 0)), (1, .int a1), (2, .int a2), (3, .int x3), (4, .int x4), (5, .int x5)] [] σ) (hk41 : ∀ (x3 : Int32) (x4 : Int32) (x5 : Int32) (x6 : Int32) (σ : Mem), k41 x3 x4 x5 x6 σ → fw_At X G 8 (fw_QI X G post) 41 [(0, .ref (gad G 0)), (1, .int a1), (2, .int a2), (3, .int x3), (4, .int x4), (5, .int x5), (6, .int x6)] [] σ) {x3 : Int32} {x4 : Int32} {x5 : Int32} {x6 : Int32} {σ : Mem} (h : qX3_swap_L41 a1 a2 post k23 k41 x3 x4 x5 x6 σ) : fw_At X G 8 (fw_QI X G post) 41 [(0, .ref (gad G 0)), (1, .int a1), (2, .int a2), (3, .int x3), (4, .int x4), (5, .int x5), (6, .int x6)] [] σ := by
  unfold qX3_swap_L41 at h
  refine fr_iload (pc := 41) O 6 dX3_swap_41 rfl ?_
  refine fr_aload_n (pc := 43) O 0 dX3_swap_43 rfl rfl ?_
  refine fr_get (pc := 44) (k := 0) (v := .ref (gad G 1)) O cl_X3 m_190 (sC_0 hG) (by decide) rfl rfl dX3_swap_44 ?_
  refine fr_get (pc := 47) (k := 7) (v := .int (σ 1 7)) O cl_X0 m_91 (sC_rig hG rg_1) (by decide) rfl rfl dX3_swap_47 ?_
  refine fr_icmp_ge (pc := 50) (tgt := 113) O dX3_swap_50 (by decide) (fun c_50 => ?_) (fun c_50 => ?_)
  · have h := h.1 c_50
    refine fr_iinc (pc := 113) O 5 [1, 2, 3, 4, 5, 0, 6] (w := (1 : Int32)) (lvF := fun y5_113 => [(0, .ref (gad G 0)), (1, .int a1), (2, .int a2), (3, .int x3), (4, .int x4), (5, .int y5_113), (6, .int x6)]) dX3_swap_113 rfl (by decide) (by decide) (fun _ => rfl) (fun y5_113 e_y5_113 => ?_)
    have h := h y5_113 e_y5_113
    refine fr_goto (pc := 116) (tgt := 23) O dX3_swap_116 (by decide) ?_
    refine fw_sub (lv' := [(0, .ref (gad G 0)), (1, .int a1), (2, .int a2), (3, .int x3), (4, .int x4), (5, .int y5_113)]) [0, 1, 2, 3, 4, 5] rfl ?_
    exact hk23 _ _ _ _ h
  · have h := h.2 c_50
    refine fr_aload_n (pc := 53) O 0 dX3_swap_53 rfl rfl ?_
    refine fr_get (pc := 54) (k := 0) (v := .ref (gad G 1)) O cl_X3 m_190 (sC_0 hG) (by decide) rfl rfl dX3_swap_54 ?_
    refine fr_get (pc := 57) (k := 8) (v := .ref (gad G 6)) O cl_X0 m_94 (sC_rig hG rg_1) (by decide) rfl rfl dX3_swap_57 ?_
    refine fr_iload (pc := 60) O 5 dX3_swap_60 rfl ?_
    have hi_62 := h.1
    have h := h.2
    refine fr_iald (pc := 62) O (sC_r5 hG rg_1) hi_62 dX3_swap_62 ?_
    refine fr_aload_n (pc := 63) O 0 dX3_swap_63 rfl rfl ?_
    refine fr_get (pc := 64) (k := 0) (v := .ref (gad G 1)) O cl_X3 m_190 (sC_0 hG) (by decide) rfl rfl dX3_swap_64 ?_
    refine fr_get (pc := 67) (k := 8) (v := .ref (gad G 6)) O cl_X0 m_94 (sC_rig hG rg_1) (by decide) rfl rfl dX3_swap_67 ?_
    refine fr_iload (pc := 70) O 6 dX3_swap_70 rfl ?_
    have hi_72 := h.1
    have h := h.2
    refine fr_iald (pc := 72) O (sC_r5 hG rg_1) hi_72 dX3_swap_72 ?_
    refine fr_icmp_eq (pc := 73) (tgt := 107) O dX3_swap_73 (by decide) (fun c_73 => ?_) (fun c_73 => ?_)
    · have h := h.1 c_73
      exact kX3_swap_B107 hG O hk23 hk41 h
    · have h := h.2 c_73
      refine fr_aload_n (pc := 76) O 0 dX3_swap_76 rfl rfl ?_
      refine fr_iload (pc := 77) O 5 dX3_swap_77 rfl ?_
      refine fr_iload (pc := 79) O 6 dX3_swap_79 rfl ?_
      refine fr_iload_n (pc := 81) O 1 dX3_swap_81 rfl rfl ?_
      refine fr_callVI (pc := 82) (st := []) O (tX3_doneSwapped X.2.1 hG  h) mt_X3_doneSwapped mv_X3_doneSwapped m_568 cl_X3 rfl (sC_0 hG) rfl (by decide) rfl (Nat.le_of_ble_eq_true rfl) dX3_swap_82 (fun r82 σ82 h => ?_)
      refine fr_istore (pc := 85) O [1, 2, 3, 4, 5, 6, 7, 0] (lv' := [(0, .ref (gad G 0)), (1, .int a1), (2, .int a2), (3, .int x3), (4, .int x4), (5, .int x5), (6, .int x6), (7, .int r82)]) dX3_swap_85 (by decide) rfl ?_
      refine fr_iload (pc := 87) O 7 dX3_swap_87 rfl ?_
      refine fr_iload (pc := 89) O 4 dX3_swap_89 rfl ?_
      refine fr_icmp_le (pc := 91) (tgt := 107) O dX3_swap_91 (by decide) (fun c_91 => ?_) (fun c_91 => ?_)
      · have h := h.1 c_91
        refine fw_sub (lv' := [(0, .ref (gad G 0)), (1, .int a1), (2, .int a2), (3, .int x3), (4, .int x4), (5, .int x5), (6, .int x6)]) [0, 1, 2, 3, 4, 5, 6] rfl ?_
        exact kX3_swap_B107 hG O hk23 hk41 h
      · have h := h.2 c_91
        refine fr_iload (pc := 94) O 7 dX3_swap_94 rfl ?_
        refine fr_istore (pc := 96) O [1, 2, 3, 4, 0, 5, 6, 7] (lv' := [(0, .ref (gad G 0)), (1, .int a1), (2, .int a2), (3, .int x3), (4, .int r82), (5, .int x5), (6, .int x6), (7, .int r82)]) dX3_swap_96 (by decide) rfl ?_
        refine fr_bipush (pc := 98) O (v := (100 : Int32)) dX3_swap_98 (by decide) ?_
        refine fr_iload (pc := 100) O 5 dX3_swap_100 rfl ?_
        refine fr_imul (pc := 102) O dX3_swap_102 ?_
        refine fr_iload (pc := 103) O 6 dX3_swap_103 rfl ?_
        refine fr_iadd (pc := 105) O dX3_swap_105 ?_
        refine fr_nm (fun y3_106 e_y3_106 => ?_)
        have h := h y3_106 e_y3_106
        refine fr_istore_n (pc := 106) O [1, 2, 3, 0, 4, 5, 6, 7] (lv' := [(0, .ref (gad G 0)), (1, .int a1), (2, .int a2), (3, .int y3_106), (4, .int r82), (5, .int x5), (6, .int x6), (7, .int r82)]) dX3_swap_106 rfl (by decide) rfl ?_
        refine fw_sub (lv' := [(0, .ref (gad G 0)), (1, .int a1), (2, .int a2), (3, .int y3_106), (4, .int r82), (5, .int x5), (6, .int x6)]) [0, 1, 2, 3, 4, 5, 6] rfl ?_
        exact kX3_swap_B107 hG O hk23 hk41 h
set_option maxRecDepth 20000 in
theorem kX3_swap_L41w {X : Cx} {G : Gw} (hG : fw_IsC G) (O : fw_Ok X G cX3_swap 8 RX3 7 155 (some .int)) {a1 : Int32} {a2 : Int32} {post : Int32 → Mem → Prop} {k23 : Int32 → Int32 → Int32 → Mem → Prop}  (hk23 : ∀ (x3 : Int32) (x4 : Int32) (x5 : Int32) (σ : Mem), k23 x3 x4 x5 σ → fw_At X G 8 (fw_QI X G post) 23 [(0, .ref (gad G 0)), (1, .int a1), (2, .int a2), (3, .int x3), (4, .int x4), (5, .int x5)] [] σ) {n9 : Nat} {x3 : Int32} {x4 : Int32} {x5 : Int32} {x6 : Int32} {σ : Mem} (h : it4 (qX3_swap_L41 a1 a2 post k23) n9 x3 x4 x5 x6 σ) : fw_At X G 8 (fw_QI X G post) 41 [(0, .ref (gad G 0)), (1, .int a1), (2, .int a2), (3, .int x3), (4, .int x4), (5, .int x5), (6, .int x6)] [] σ :=
  it4_walk (T := fun x3 x4 x5 x6 σ => fw_At X G 8 (fw_QI X G post) 41 [(0, .ref (gad G 0)), (1, .int a1), (2, .int a2), (3, .int x3), (4, .int x4), (5, .int x5), (6, .int x6)] [] σ) (fun k41 hk41 x3 x4 x5 x6 σ h => kX3_swap_L41 hG O hk23 hk41 h) n9 x3 x4 x5 x6 σ h
def qX3_swap_L23 (a1 : Int32) (a2 : Int32) (post : Int32 → Mem → Prop) (k23 : Int32 → Int32 → Int32 → Mem → Prop) (x3 : Int32) (x4 : Int32) (x5 : Int32) (σ : Mem) : Prop := (((σ 1 7) ≤ x5 → ((x3 = (-4 : Int32) → qX3_swap_B129 a1 a2 post x3 σ) ∧ (¬ x3 = (-4 : Int32) → ((¬ a2 = 0 → qX3_swap_B135 a1 a2 post x4 σ) ∧ (a2 = 0 → qX3_swap_B129 a1 a2 post x3 σ))))) ∧ (¬ (σ 1 7) ≤ x5 → (∀ y6_39 : Int32, y6_39 = x5 + (1 : Int32) → ∃ n9, it4 (qX3_swap_L41 a1 a2 post k23) n9 x3 x4 x5 y6_39 σ)))
set_option maxRecDepth 20000 in
theorem kX3_swap_L23 {X : Cx} {G : Gw} (hG : fw_IsC G) (O : fw_Ok X G cX3_swap 8 RX3 7 155 (some .int)) {a1 : Int32} {a2 : Int32} {post : Int32 → Mem → Prop} {k23 : Int32 → Int32 → Int32 → Mem → Prop}  (hk23 : ∀ (x3 : Int32) (x4 : Int32) (x5 : Int32) (σ : Mem), k23 x3 x4 x5 σ → fw_At X G 8 (fw_QI X G post) 23 [(0, .ref (gad G 0)), (1, .int a1), (2, .int a2), (3, .int x3), (4, .int x4), (5, .int x5)] [] σ) {x3 : Int32} {x4 : Int32} {x5 : Int32} {σ : Mem} (h : qX3_swap_L23 a1 a2 post k23 x3 x4 x5 σ) : fw_At X G 8 (fw_QI X G post) 23 [(0, .ref (gad G 0)), (1, .int a1), (2, .int a2), (3, .int x3), (4, .int x4), (5, .int x5)] [] σ := by
  unfold qX3_swap_L23 at h
  refine fr_iload (pc := 23) O 5 dX3_swap_23 rfl ?_
  refine fr_aload_n (pc := 25) O 0 dX3_swap_25 rfl rfl ?_
  refine fr_get (pc := 26) (k := 0) (v := .ref (gad G 1)) O cl_X3 m_190 (sC_0 hG) (by decide) rfl rfl dX3_swap_26 ?_
  refine fr_get (pc := 29) (k := 7) (v := .int (σ 1 7)) O cl_X0 m_91 (sC_rig hG rg_1) (by decide) rfl rfl dX3_swap_29 ?_
  refine fr_icmp_ge (pc := 32) (tgt := 119) O dX3_swap_32 (by decide) (fun c_32 => ?_) (fun c_32 => ?_)
  · have h := h.1 c_32
    refine fr_iload_n (pc := 119) O 3 dX3_swap_119 rfl rfl ?_
    refine fr_bipush (pc := 120) O (v := (-4 : Int32)) dX3_swap_120 (by decide) ?_
    refine fr_icmp_eq (pc := 122) (tgt := 129) O dX3_swap_122 (by decide) (fun c_122 => ?_) (fun c_122 => ?_)
    · have h := h.1 c_122
      refine fw_sub (lv' := [(0, .ref (gad G 0)), (1, .int a1), (2, .int a2), (3, .int x3)]) [0, 1, 2, 3] rfl ?_
      exact kX3_swap_B129 hG O  h
    · have h := h.2 c_122
      refine fr_iload_n (pc := 125) O 2 dX3_swap_125 rfl rfl ?_
      refine fr_if_ne (pc := 126) (tgt := 133) O dX3_swap_126 (by decide) (fun c_126 => ?_) (fun c_126 => ?_)
      · have h := h.1 c_126
        refine fr_iload (pc := 133) O 4 dX3_swap_133 rfl ?_
        refine fw_sub (lv' := [(0, .ref (gad G 0)), (1, .int a1), (2, .int a2)]) [0, 1, 2] rfl ?_
        exact kX3_swap_B135 hG O  h
      · have h := h.2 c_126
        refine fw_sub (lv' := [(0, .ref (gad G 0)), (1, .int a1), (2, .int a2), (3, .int x3)]) [0, 1, 2, 3] rfl ?_
        exact kX3_swap_B129 hG O  h
  · have h := h.2 c_32
    refine fr_iload (pc := 35) O 5 dX3_swap_35 rfl ?_
    refine fr_iconst (pc := 37) O (v := (1 : Int32)) dX3_swap_37 (by decide) ?_
    refine fr_iadd (pc := 38) O dX3_swap_38 ?_
    refine fr_nm (fun y6_39 e_y6_39 => ?_)
    have h := h y6_39 e_y6_39
    refine fr_istore (pc := 39) O [1, 2, 3, 4, 5, 6, 0] (lv' := [(0, .ref (gad G 0)), (1, .int a1), (2, .int a2), (3, .int x3), (4, .int x4), (5, .int x5), (6, .int y6_39)]) dX3_swap_39 (by decide) rfl ?_
    obtain ⟨n9, h⟩ := h
    exact kX3_swap_L41w hG O hk23 h
set_option maxRecDepth 20000 in
theorem kX3_swap_L23w {X : Cx} {G : Gw} (hG : fw_IsC G) (O : fw_Ok X G cX3_swap 8 RX3 7 155 (some .int)) {a1 : Int32} {a2 : Int32} {post : Int32 → Mem → Prop}   {n9 : Nat} {x3 : Int32} {x4 : Int32} {x5 : Int32} {σ : Mem} (h : it3 (qX3_swap_L23 a1 a2 post) n9 x3 x4 x5 σ) : fw_At X G 8 (fw_QI X G post) 23 [(0, .ref (gad G 0)), (1, .int a1), (2, .int a2), (3, .int x3), (4, .int x4), (5, .int x5)] [] σ :=
  it3_walk (T := fun x3 x4 x5 σ => fw_At X G 8 (fw_QI X G post) 23 [(0, .ref (gad G 0)), (1, .int a1), (2, .int a2), (3, .int x3), (4, .int x4), (5, .int x5)] [] σ) (fun k23 hk23 x3 x4 x5 σ h => kX3_swap_L23 hG O hk23 h) n9 x3 x4 x5 σ h
def qX3_swap (a1 : Int32) (a2 : Int32) (σ : Mem) (post : Int32 → Mem → Prop) : Prop := (qX3_asksBest a1 a2 σ (fun r2 σ2 => ((¬ r2 = 0 → (qX3_doneAsItIs a1 σ2 (fun r15 σ15 => ∃ n9, it3 (qX3_swap_L23 a1 a2 post) n9 (-4 : Int32) r15 (0 : Int32) σ15))) ∧ (r2 = 0 → post (-1 : Int32) σ2))))
set_option maxRecDepth 20000 in
theorem kX3_swap {X : Cx} {G : Gw} (hG : fw_IsC G) (O : fw_Ok X G cX3_swap 8 RX3 7 155 (some .int)) {a1 : Int32} {a2 : Int32}  {σ : Mem} {post : Int32 → Mem → Prop} (h : qX3_swap a1 a2 σ post) : fw_At X G 8 (fw_QI X G post) 0 [(0, .ref (gad G 0)), (1, .int a1), (2, .int a2)] [] σ := by
  unfold qX3_swap at h
  refine fr_iload_n (pc := 0) O 1 dX3_swap_0 rfl rfl ?_
  refine fr_iload_n (pc := 1) O 2 dX3_swap_1 rfl rfl ?_
  refine fr_callSI (pc := 2) (st := []) O (tX3_asksBest X.2.1 hG  h) mt_X3_asksBest m_550 m_549 rfl (by decide) rfl (Nat.le_of_ble_eq_true rfl) dX3_swap_2 (fun r2 σ2 h => ?_)
  refine fr_if_ne (pc := 5) (tgt := 10) O dX3_swap_5 (by decide) (fun c_5 => ?_) (fun c_5 => ?_)
  · have h := h.1 c_5
    refine fr_bipush (pc := 10) O (v := (-4 : Int32)) dX3_swap_10 (by decide) ?_
    refine fr_istore_n (pc := 12) O [1, 2, 3, 0] (lv' := [(0, .ref (gad G 0)), (1, .int a1), (2, .int a2), (3, .int (-4 : Int32))]) dX3_swap_12 rfl (by decide) rfl ?_
    refine fr_aload_n (pc := 13) O 0 dX3_swap_13 rfl rfl ?_
    refine fr_iload_n (pc := 14) O 1 dX3_swap_14 rfl rfl ?_
    refine fr_callVI (pc := 15) (st := []) O (tX3_doneAsItIs X.2.1 hG  h) mt_X3_doneAsItIs mv_X3_doneAsItIs m_564 cl_X3 rfl (sC_0 hG) rfl (by decide) rfl (Nat.le_of_ble_eq_true rfl) dX3_swap_15 (fun r15 σ15 h => ?_)
    refine fr_istore (pc := 18) O [1, 2, 3, 4, 0] (lv' := [(0, .ref (gad G 0)), (1, .int a1), (2, .int a2), (3, .int (-4 : Int32)), (4, .int r15)]) dX3_swap_18 (by decide) rfl ?_
    refine fr_iconst (pc := 20) O (v := (0 : Int32)) dX3_swap_20 (by decide) ?_
    refine fr_istore (pc := 21) O [1, 2, 3, 4, 5, 0] (lv' := [(0, .ref (gad G 0)), (1, .int a1), (2, .int a2), (3, .int (-4 : Int32)), (4, .int r15), (5, .int (0 : Int32))]) dX3_swap_21 (by decide) rfl ?_
    obtain ⟨n9, h⟩ := h
    exact kX3_swap_L23w hG O  h
  · have h := h.2 c_5
    refine fr_iconst (pc := 8) O (v := (-1 : Int32)) dX3_swap_8 (by decide) ?_
    exact fr_iret (pc := 9) O dX3_swap_9 h
theorem tX3_swap (l : Launch) {G : Gw} (hG : fw_IsC G) {a1 : Int32} {a2 : Int32}  {σ : Mem} {post : Int32 → Mem → Prop} (h : qX3_swap a1 a2 σ post) : fw_CI l G yX3_swap cX3_swap 8 .int 7 155 [.ref (gad G 0), .int a1, .int a2] σ post := fw_ofI (sok_C hG) (by decide) (Nat.le_of_ble_eq_true rfl) (fun X O => kX3_swap hG O  h)
def qX3_omit_B111 (a1 : Int32) (a2 : Int32) (post : Int32 → Mem → Prop) (s0 : Int32) (σ : Mem) : Prop := post s0 σ
set_option maxRecDepth 20000 in
theorem kX3_omit_B111 {X : Cx} {G : Gw} (hG : fw_IsC G) (O : fw_Ok X G cX3_omit 6 RX3 7 153 (some .int)) {a1 : Int32} {a2 : Int32} {post : Int32 → Mem → Prop}   {s0 : Int32} {σ : Mem} (h : qX3_omit_B111 a1 a2 post s0 σ) : fw_At X G 6 (fw_QI X G post) 111 [(0, .ref (gad G 0)), (1, .int a1), (2, .int a2)] [.int s0] σ := by
  unfold qX3_omit_B111 at h
  exact fr_iret (pc := 111) O dX3_omit_111 h
def qX3_omit_B105 (a1 : Int32) (a2 : Int32) (post : Int32 → Mem → Prop) (x3 : Int32) (σ : Mem) : Prop := qX3_omit_B111 a1 a2 post x3 σ
set_option maxRecDepth 20000 in
theorem kX3_omit_B105 {X : Cx} {G : Gw} (hG : fw_IsC G) (O : fw_Ok X G cX3_omit 6 RX3 7 153 (some .int)) {a1 : Int32} {a2 : Int32} {post : Int32 → Mem → Prop}   {x3 : Int32} {σ : Mem} (h : qX3_omit_B105 a1 a2 post x3 σ) : fw_At X G 6 (fw_QI X G post) 105 [(0, .ref (gad G 0)), (1, .int a1), (2, .int a2), (3, .int x3)] [] σ := by
  unfold qX3_omit_B105 at h
  refine fr_iload_n (pc := 105) O 3 dX3_omit_105 rfl rfl ?_
  refine fr_goto (pc := 106) (tgt := 111) O dX3_omit_106 (by decide) ?_
  refine fw_sub (lv' := [(0, .ref (gad G 0)), (1, .int a1), (2, .int a2)]) [0, 1, 2] rfl ?_
  exact kX3_omit_B111 hG O  h
def qX3_omit_B89 (a1 : Int32) (a2 : Int32) (post : Int32 → Mem → Prop) (k23 : Int32 → Int32 → Int32 → Mem → Prop) (x3 : Int32) (x4 : Int32) (x5 : Int32) (σ : Mem) : Prop := (∀ y5_89 : Int32, y5_89 = x5 + (1 : Int32) → k23 x3 x4 y5_89 σ)
set_option maxRecDepth 20000 in
theorem kX3_omit_B89 {X : Cx} {G : Gw} (hG : fw_IsC G) (O : fw_Ok X G cX3_omit 6 RX3 7 153 (some .int)) {a1 : Int32} {a2 : Int32} {post : Int32 → Mem → Prop} {k23 : Int32 → Int32 → Int32 → Mem → Prop}  (hk23 : ∀ (x3 : Int32) (x4 : Int32) (x5 : Int32) (σ : Mem), k23 x3 x4 x5 σ → fw_At X G 6 (fw_QI X G post) 23 [(0, .ref (gad G 0)), (1, .int a1), (2, .int a2), (3, .int x3), (4, .int x4), (5, .int x5)] [] σ) {x3 : Int32} {x4 : Int32} {x5 : Int32} {σ : Mem} (h : qX3_omit_B89 a1 a2 post k23 x3 x4 x5 σ) : fw_At X G 6 (fw_QI X G post) 89 [(0, .ref (gad G 0)), (1, .int a1), (2, .int a2), (3, .int x3), (4, .int x4), (5, .int x5)] [] σ := by
  unfold qX3_omit_B89 at h
  refine fr_iinc (pc := 89) O 5 [1, 2, 3, 4, 5, 0] (w := (1 : Int32)) (lvF := fun y5_89 => [(0, .ref (gad G 0)), (1, .int a1), (2, .int a2), (3, .int x3), (4, .int x4), (5, .int y5_89)]) dX3_omit_89 rfl (by decide) (by decide) (fun _ => rfl) (fun y5_89 e_y5_89 => ?_)
  have h := h y5_89 e_y5_89
  refine fr_goto (pc := 92) (tgt := 23) O dX3_omit_92 (by decide) ?_
  exact hk23 _ _ _ _ h
def qX3_omit_L23 (a1 : Int32) (a2 : Int32) (post : Int32 → Mem → Prop) (k23 : Int32 → Int32 → Int32 → Mem → Prop) (x3 : Int32) (x4 : Int32) (x5 : Int32) (σ : Mem) : Prop := (((σ 1 7) ≤ x5 → ((x3 = (-4 : Int32) → qX3_omit_B105 a1 a2 post x3 σ) ∧ (¬ x3 = (-4 : Int32) → ((¬ a2 = 0 → qX3_omit_B111 a1 a2 post x4 σ) ∧ (a2 = 0 → qX3_omit_B105 a1 a2 post x3 σ))))) ∧ (¬ (σ 1 7) ≤ x5 → (qX0_startAs 7 1 σ (fun σ43 => (vp_in x5 16 ∧ (∀ σ56 : Mem, σ56 = up2 σ43 12 x5.toNatClampNeg (0 : Int32) → (qX0_runTicks 7 a1 σ56 (fun σ62 => (((σ62 7 10) ≤ x4 → qX3_omit_B89 a1 a2 post k23 x3 x4 x5 σ62) ∧ (¬ (σ62 7 10) ≤ x4 → (∀ y4_84 : Int32, y4_84 = σ62 7 10 → qX3_omit_B89 a1 a2 post k23 x5 y4_84 x5 σ62)))))))))))
set_option maxRecDepth 20000 in
theorem kX3_omit_L23 {X : Cx} {G : Gw} (hG : fw_IsC G) (O : fw_Ok X G cX3_omit 6 RX3 7 153 (some .int)) {a1 : Int32} {a2 : Int32} {post : Int32 → Mem → Prop} {k23 : Int32 → Int32 → Int32 → Mem → Prop}  (hk23 : ∀ (x3 : Int32) (x4 : Int32) (x5 : Int32) (σ : Mem), k23 x3 x4 x5 σ → fw_At X G 6 (fw_QI X G post) 23 [(0, .ref (gad G 0)), (1, .int a1), (2, .int a2), (3, .int x3), (4, .int x4), (5, .int x5)] [] σ) {x3 : Int32} {x4 : Int32} {x5 : Int32} {σ : Mem} (h : qX3_omit_L23 a1 a2 post k23 x3 x4 x5 σ) : fw_At X G 6 (fw_QI X G post) 23 [(0, .ref (gad G 0)), (1, .int a1), (2, .int a2), (3, .int x3), (4, .int x4), (5, .int x5)] [] σ := by
  unfold qX3_omit_L23 at h
  refine fr_iload (pc := 23) O 5 dX3_omit_23 rfl ?_
  refine fr_aload_n (pc := 25) O 0 dX3_omit_25 rfl rfl ?_
  refine fr_get (pc := 26) (k := 0) (v := .ref (gad G 1)) O cl_X3 m_190 (sC_0 hG) (by decide) rfl rfl dX3_omit_26 ?_
  refine fr_get (pc := 29) (k := 7) (v := .int (σ 1 7)) O cl_X0 m_91 (sC_rig hG rg_1) (by decide) rfl rfl dX3_omit_29 ?_
  refine fr_icmp_ge (pc := 32) (tgt := 95) O dX3_omit_32 (by decide) (fun c_32 => ?_) (fun c_32 => ?_)
  · have h := h.1 c_32
    refine fr_iload_n (pc := 95) O 3 dX3_omit_95 rfl rfl ?_
    refine fr_bipush (pc := 96) O (v := (-4 : Int32)) dX3_omit_96 (by decide) ?_
    refine fr_icmp_eq (pc := 98) (tgt := 105) O dX3_omit_98 (by decide) (fun c_98 => ?_) (fun c_98 => ?_)
    · have h := h.1 c_98
      refine fw_sub (lv' := [(0, .ref (gad G 0)), (1, .int a1), (2, .int a2), (3, .int x3)]) [0, 1, 2, 3] rfl ?_
      exact kX3_omit_B105 hG O  h
    · have h := h.2 c_98
      refine fr_iload_n (pc := 101) O 2 dX3_omit_101 rfl rfl ?_
      refine fr_if_ne (pc := 102) (tgt := 109) O dX3_omit_102 (by decide) (fun c_102 => ?_) (fun c_102 => ?_)
      · have h := h.1 c_102
        refine fr_iload (pc := 109) O 4 dX3_omit_109 rfl ?_
        refine fw_sub (lv' := [(0, .ref (gad G 0)), (1, .int a1), (2, .int a2)]) [0, 1, 2] rfl ?_
        exact kX3_omit_B111 hG O  h
      · have h := h.2 c_102
        refine fw_sub (lv' := [(0, .ref (gad G 0)), (1, .int a1), (2, .int a2), (3, .int x3)]) [0, 1, 2, 3] rfl ?_
        exact kX3_omit_B105 hG O  h
  · have h := h.2 c_32
    refine fr_aload_n (pc := 35) O 0 dX3_omit_35 rfl rfl ?_
    refine fr_get (pc := 36) (k := 1) (v := .ref (gad G 7)) O cl_X3 m_191 (sC_0 hG) (by decide) rfl rfl dX3_omit_36 ?_
    refine fr_aload_n (pc := 39) O 0 dX3_omit_39 rfl rfl ?_
    refine fr_get (pc := 40) (k := 0) (v := .ref (gad G 1)) O cl_X3 m_190 (sC_0 hG) (by decide) rfl rfl dX3_omit_40 ?_
    refine fr_callVV (pc := 43) (st := []) O (tX0_startAs X.2.1 hG rg_7 rg_1 h) mt_X0_startAs mv_X0_startAs m_513 cl_X0 rfl (sC_rig hG rg_7) rfl (by decide) rfl (Nat.le_of_ble_eq_true rfl) dX3_omit_43 (fun σ43 h => ?_)
    refine fr_aload_n (pc := 46) O 0 dX3_omit_46 rfl rfl ?_
    refine fr_get (pc := 47) (k := 1) (v := .ref (gad G 7)) O cl_X3 m_191 (sC_0 hG) (by decide) rfl rfl dX3_omit_47 ?_
    refine fr_get (pc := 50) (k := 8) (v := .ref (gad G 12)) O cl_X0 m_94 (sC_rig hG rg_7) (by decide) rfl rfl dX3_omit_50 ?_
    refine fr_iload (pc := 53) O 5 dX3_omit_53 rfl ?_
    refine fr_iconst (pc := 55) O (v := (0 : Int32)) dX3_omit_55 (by decide) ?_
    have hi_56 := h.1
    have h := h.2
    refine fr_iast (pc := 56) O (sC_r5 hG rg_7) hi_56 dX3_omit_56 (fun σ56 e_σ56 => ?_)
    have h := h σ56 e_σ56
    refine fr_aload_n (pc := 57) O 0 dX3_omit_57 rfl rfl ?_
    refine fr_get (pc := 58) (k := 1) (v := .ref (gad G 7)) O cl_X3 m_191 (sC_0 hG) (by decide) rfl rfl dX3_omit_58 ?_
    refine fr_iload_n (pc := 61) O 1 dX3_omit_61 rfl rfl ?_
    refine fr_callVV (pc := 62) (st := []) O (tX0_runTicks X.2.1 hG rg_7 h) mt_X0_runTicks mv_X0_runTicks m_499 cl_X0 rfl (sC_rig hG rg_7) rfl (by decide) rfl (Nat.le_of_ble_eq_true rfl) dX3_omit_62 (fun σ62 h => ?_)
    refine fr_aload_n (pc := 65) O 0 dX3_omit_65 rfl rfl ?_
    refine fr_get (pc := 66) (k := 1) (v := .ref (gad G 7)) O cl_X3 m_191 (sC_0 hG) (by decide) rfl rfl dX3_omit_66 ?_
    refine fr_get (pc := 69) (k := 10) (v := .int (σ62 7 10)) O cl_X0 m_98 (sC_rig hG rg_7) (by decide) rfl rfl dX3_omit_69 ?_
    refine fr_iload (pc := 72) O 4 dX3_omit_72 rfl ?_
    refine fr_icmp_le (pc := 74) (tgt := 89) O dX3_omit_74 (by decide) (fun c_74 => ?_) (fun c_74 => ?_)
    · have h := h.1 c_74
      exact kX3_omit_B89 hG O hk23 h
    · have h := h.2 c_74
      refine fr_aload_n (pc := 77) O 0 dX3_omit_77 rfl rfl ?_
      refine fr_get (pc := 78) (k := 1) (v := .ref (gad G 7)) O cl_X3 m_191 (sC_0 hG) (by decide) rfl rfl dX3_omit_78 ?_
      refine fr_get (pc := 81) (k := 10) (v := .int (σ62 7 10)) O cl_X0 m_98 (sC_rig hG rg_7) (by decide) rfl rfl dX3_omit_81 ?_
      refine fr_nm (fun y4_84 e_y4_84 => ?_)
      have h := h y4_84 e_y4_84
      refine fr_istore (pc := 84) O [1, 2, 3, 4, 0, 5] (lv' := [(0, .ref (gad G 0)), (1, .int a1), (2, .int a2), (3, .int x3), (4, .int y4_84), (5, .int x5)]) dX3_omit_84 (by decide) rfl ?_
      refine fr_iload (pc := 86) O 5 dX3_omit_86 rfl ?_
      refine fr_istore_n (pc := 88) O [1, 2, 3, 0, 4, 5] (lv' := [(0, .ref (gad G 0)), (1, .int a1), (2, .int a2), (3, .int x5), (4, .int y4_84), (5, .int x5)]) dX3_omit_88 rfl (by decide) rfl ?_
      exact kX3_omit_B89 hG O hk23 h
set_option maxRecDepth 20000 in
theorem kX3_omit_L23w {X : Cx} {G : Gw} (hG : fw_IsC G) (O : fw_Ok X G cX3_omit 6 RX3 7 153 (some .int)) {a1 : Int32} {a2 : Int32} {post : Int32 → Mem → Prop}   {n9 : Nat} {x3 : Int32} {x4 : Int32} {x5 : Int32} {σ : Mem} (h : it3 (qX3_omit_L23 a1 a2 post) n9 x3 x4 x5 σ) : fw_At X G 6 (fw_QI X G post) 23 [(0, .ref (gad G 0)), (1, .int a1), (2, .int a2), (3, .int x3), (4, .int x4), (5, .int x5)] [] σ :=
  it3_walk (T := fun x3 x4 x5 σ => fw_At X G 6 (fw_QI X G post) 23 [(0, .ref (gad G 0)), (1, .int a1), (2, .int a2), (3, .int x3), (4, .int x4), (5, .int x5)] [] σ) (fun k23 hk23 x3 x4 x5 σ h => kX3_omit_L23 hG O hk23 h) n9 x3 x4 x5 σ h
def qX3_omit (a1 : Int32) (a2 : Int32) (σ : Mem) (post : Int32 → Mem → Prop) : Prop := (qX3_asksBest a1 a2 σ (fun r2 σ2 => ((¬ r2 = 0 → (qX3_doneAsItIs a1 σ2 (fun r15 σ15 => ∃ n9, it3 (qX3_omit_L23 a1 a2 post) n9 (-4 : Int32) r15 (0 : Int32) σ15))) ∧ (r2 = 0 → post (-1 : Int32) σ2))))
set_option maxRecDepth 20000 in
theorem kX3_omit {X : Cx} {G : Gw} (hG : fw_IsC G) (O : fw_Ok X G cX3_omit 6 RX3 7 153 (some .int)) {a1 : Int32} {a2 : Int32}  {σ : Mem} {post : Int32 → Mem → Prop} (h : qX3_omit a1 a2 σ post) : fw_At X G 6 (fw_QI X G post) 0 [(0, .ref (gad G 0)), (1, .int a1), (2, .int a2)] [] σ := by
  unfold qX3_omit at h
  refine fr_iload_n (pc := 0) O 1 dX3_omit_0 rfl rfl ?_
  refine fr_iload_n (pc := 1) O 2 dX3_omit_1 rfl rfl ?_
  refine fr_callSI (pc := 2) (st := []) O (tX3_asksBest X.2.1 hG  h) mt_X3_asksBest m_550 m_549 rfl (by decide) rfl (Nat.le_of_ble_eq_true rfl) dX3_omit_2 (fun r2 σ2 h => ?_)
  refine fr_if_ne (pc := 5) (tgt := 10) O dX3_omit_5 (by decide) (fun c_5 => ?_) (fun c_5 => ?_)
  · have h := h.1 c_5
    refine fr_bipush (pc := 10) O (v := (-4 : Int32)) dX3_omit_10 (by decide) ?_
    refine fr_istore_n (pc := 12) O [1, 2, 3, 0] (lv' := [(0, .ref (gad G 0)), (1, .int a1), (2, .int a2), (3, .int (-4 : Int32))]) dX3_omit_12 rfl (by decide) rfl ?_
    refine fr_aload_n (pc := 13) O 0 dX3_omit_13 rfl rfl ?_
    refine fr_iload_n (pc := 14) O 1 dX3_omit_14 rfl rfl ?_
    refine fr_callVI (pc := 15) (st := []) O (tX3_doneAsItIs X.2.1 hG  h) mt_X3_doneAsItIs mv_X3_doneAsItIs m_564 cl_X3 rfl (sC_0 hG) rfl (by decide) rfl (Nat.le_of_ble_eq_true rfl) dX3_omit_15 (fun r15 σ15 h => ?_)
    refine fr_istore (pc := 18) O [1, 2, 3, 4, 0] (lv' := [(0, .ref (gad G 0)), (1, .int a1), (2, .int a2), (3, .int (-4 : Int32)), (4, .int r15)]) dX3_omit_18 (by decide) rfl ?_
    refine fr_iconst (pc := 20) O (v := (0 : Int32)) dX3_omit_20 (by decide) ?_
    refine fr_istore (pc := 21) O [1, 2, 3, 4, 5, 0] (lv' := [(0, .ref (gad G 0)), (1, .int a1), (2, .int a2), (3, .int (-4 : Int32)), (4, .int r15), (5, .int (0 : Int32))]) dX3_omit_21 (by decide) rfl ?_
    obtain ⟨n9, h⟩ := h
    exact kX3_omit_L23w hG O  h
  · have h := h.2 c_5
    refine fr_iconst (pc := 8) O (v := (-1 : Int32)) dX3_omit_8 (by decide) ?_
    exact fr_iret (pc := 9) O dX3_omit_9 h
theorem tX3_omit (l : Launch) {G : Gw} (hG : fw_IsC G) {a1 : Int32} {a2 : Int32}  {σ : Mem} {post : Int32 → Mem → Prop} (h : qX3_omit a1 a2 σ post) : fw_CI l G yX3_omit cX3_omit 6 .int 7 153 [.ref (gad G 0), .int a1, .int a2] σ post := fw_ofI (sok_C hG) (by decide) (Nat.le_of_ble_eq_true rfl) (fun X O => kX3_omit hG O  h)
def qX3_off_B109 (a1 : Int32) (a2 : Int32) (post : Int32 → Mem → Prop) (s0 : Int32) (σ : Mem) : Prop := post s0 σ
set_option maxRecDepth 20000 in
theorem kX3_off_B109 {X : Cx} {G : Gw} (hG : fw_IsC G) (O : fw_Ok X G cX3_off 6 RX3 7 153 (some .int)) {a1 : Int32} {a2 : Int32} {post : Int32 → Mem → Prop}   {s0 : Int32} {σ : Mem} (h : qX3_off_B109 a1 a2 post s0 σ) : fw_At X G 6 (fw_QI X G post) 109 [(0, .ref (gad G 0)), (1, .int a1), (2, .int a2)] [.int s0] σ := by
  unfold qX3_off_B109 at h
  exact fr_iret (pc := 109) O dX3_off_109 h
def qX3_off_B103 (a1 : Int32) (a2 : Int32) (post : Int32 → Mem → Prop) (x3 : Int32) (σ : Mem) : Prop := qX3_off_B109 a1 a2 post x3 σ
set_option maxRecDepth 20000 in
theorem kX3_off_B103 {X : Cx} {G : Gw} (hG : fw_IsC G) (O : fw_Ok X G cX3_off 6 RX3 7 153 (some .int)) {a1 : Int32} {a2 : Int32} {post : Int32 → Mem → Prop}   {x3 : Int32} {σ : Mem} (h : qX3_off_B103 a1 a2 post x3 σ) : fw_At X G 6 (fw_QI X G post) 103 [(0, .ref (gad G 0)), (1, .int a1), (2, .int a2), (3, .int x3)] [] σ := by
  unfold qX3_off_B103 at h
  refine fr_iload_n (pc := 103) O 3 dX3_off_103 rfl rfl ?_
  refine fr_goto (pc := 104) (tgt := 109) O dX3_off_104 (by decide) ?_
  refine fw_sub (lv' := [(0, .ref (gad G 0)), (1, .int a1), (2, .int a2)]) [0, 1, 2] rfl ?_
  exact kX3_off_B109 hG O  h
def qX3_off_B87 (a1 : Int32) (a2 : Int32) (post : Int32 → Mem → Prop) (k23 : Int32 → Int32 → Int32 → Mem → Prop) (x3 : Int32) (x4 : Int32) (x5 : Int32) (σ : Mem) : Prop := (∀ y5_87 : Int32, y5_87 = x5 + (1 : Int32) → k23 x3 x4 y5_87 σ)
set_option maxRecDepth 20000 in
theorem kX3_off_B87 {X : Cx} {G : Gw} (hG : fw_IsC G) (O : fw_Ok X G cX3_off 6 RX3 7 153 (some .int)) {a1 : Int32} {a2 : Int32} {post : Int32 → Mem → Prop} {k23 : Int32 → Int32 → Int32 → Mem → Prop}  (hk23 : ∀ (x3 : Int32) (x4 : Int32) (x5 : Int32) (σ : Mem), k23 x3 x4 x5 σ → fw_At X G 6 (fw_QI X G post) 23 [(0, .ref (gad G 0)), (1, .int a1), (2, .int a2), (3, .int x3), (4, .int x4), (5, .int x5)] [] σ) {x3 : Int32} {x4 : Int32} {x5 : Int32} {σ : Mem} (h : qX3_off_B87 a1 a2 post k23 x3 x4 x5 σ) : fw_At X G 6 (fw_QI X G post) 87 [(0, .ref (gad G 0)), (1, .int a1), (2, .int a2), (3, .int x3), (4, .int x4), (5, .int x5)] [] σ := by
  unfold qX3_off_B87 at h
  refine fr_iinc (pc := 87) O 5 [1, 2, 3, 4, 5, 0] (w := (1 : Int32)) (lvF := fun y5_87 => [(0, .ref (gad G 0)), (1, .int a1), (2, .int a2), (3, .int x3), (4, .int x4), (5, .int y5_87)]) dX3_off_87 rfl (by decide) (by decide) (fun _ => rfl) (fun y5_87 e_y5_87 => ?_)
  have h := h y5_87 e_y5_87
  refine fr_goto (pc := 90) (tgt := 23) O dX3_off_90 (by decide) ?_
  exact hk23 _ _ _ _ h
def qX3_off_L23 (a1 : Int32) (a2 : Int32) (post : Int32 → Mem → Prop) (k23 : Int32 → Int32 → Int32 → Mem → Prop) (x3 : Int32) (x4 : Int32) (x5 : Int32) (σ : Mem) : Prop := (((σ 1 2) ≤ x5 → ((x3 = (-4 : Int32) → qX3_off_B103 a1 a2 post x3 σ) ∧ (¬ x3 = (-4 : Int32) → ((¬ a2 = 0 → qX3_off_B109 a1 a2 post x4 σ) ∧ (a2 = 0 → qX3_off_B103 a1 a2 post x3 σ))))) ∧ (¬ (σ 1 2) ≤ x5 → (qX0_startAs 7 1 σ (fun σ43 => (qX0_neverJoin 7 x5 σ43 (fun σ52 => (qX0_runTicks 7 a1 σ52 (fun σ60 => (((σ60 7 10) ≤ x4 → qX3_off_B87 a1 a2 post k23 x3 x4 x5 σ60) ∧ (¬ (σ60 7 10) ≤ x4 → (∀ y4_82 : Int32, y4_82 = σ60 7 10 → qX3_off_B87 a1 a2 post k23 x5 y4_82 x5 σ60)))))))))))
set_option maxRecDepth 20000 in
theorem kX3_off_L23 {X : Cx} {G : Gw} (hG : fw_IsC G) (O : fw_Ok X G cX3_off 6 RX3 7 153 (some .int)) {a1 : Int32} {a2 : Int32} {post : Int32 → Mem → Prop} {k23 : Int32 → Int32 → Int32 → Mem → Prop}  (hk23 : ∀ (x3 : Int32) (x4 : Int32) (x5 : Int32) (σ : Mem), k23 x3 x4 x5 σ → fw_At X G 6 (fw_QI X G post) 23 [(0, .ref (gad G 0)), (1, .int a1), (2, .int a2), (3, .int x3), (4, .int x4), (5, .int x5)] [] σ) {x3 : Int32} {x4 : Int32} {x5 : Int32} {σ : Mem} (h : qX3_off_L23 a1 a2 post k23 x3 x4 x5 σ) : fw_At X G 6 (fw_QI X G post) 23 [(0, .ref (gad G 0)), (1, .int a1), (2, .int a2), (3, .int x3), (4, .int x4), (5, .int x5)] [] σ := by
  unfold qX3_off_L23 at h
  refine fr_iload (pc := 23) O 5 dX3_off_23 rfl ?_
  refine fr_aload_n (pc := 25) O 0 dX3_off_25 rfl rfl ?_
  refine fr_get (pc := 26) (k := 0) (v := .ref (gad G 1)) O cl_X3 m_190 (sC_0 hG) (by decide) rfl rfl dX3_off_26 ?_
  refine fr_get (pc := 29) (k := 2) (v := .int (σ 1 2)) O cl_X0 m_80 (sC_rig hG rg_1) (by decide) rfl rfl dX3_off_29 ?_
  refine fr_icmp_ge (pc := 32) (tgt := 93) O dX3_off_32 (by decide) (fun c_32 => ?_) (fun c_32 => ?_)
  · have h := h.1 c_32
    refine fr_iload_n (pc := 93) O 3 dX3_off_93 rfl rfl ?_
    refine fr_bipush (pc := 94) O (v := (-4 : Int32)) dX3_off_94 (by decide) ?_
    refine fr_icmp_eq (pc := 96) (tgt := 103) O dX3_off_96 (by decide) (fun c_96 => ?_) (fun c_96 => ?_)
    · have h := h.1 c_96
      refine fw_sub (lv' := [(0, .ref (gad G 0)), (1, .int a1), (2, .int a2), (3, .int x3)]) [0, 1, 2, 3] rfl ?_
      exact kX3_off_B103 hG O  h
    · have h := h.2 c_96
      refine fr_iload_n (pc := 99) O 2 dX3_off_99 rfl rfl ?_
      refine fr_if_ne (pc := 100) (tgt := 107) O dX3_off_100 (by decide) (fun c_100 => ?_) (fun c_100 => ?_)
      · have h := h.1 c_100
        refine fr_iload (pc := 107) O 4 dX3_off_107 rfl ?_
        refine fw_sub (lv' := [(0, .ref (gad G 0)), (1, .int a1), (2, .int a2)]) [0, 1, 2] rfl ?_
        exact kX3_off_B109 hG O  h
      · have h := h.2 c_100
        refine fw_sub (lv' := [(0, .ref (gad G 0)), (1, .int a1), (2, .int a2), (3, .int x3)]) [0, 1, 2, 3] rfl ?_
        exact kX3_off_B103 hG O  h
  · have h := h.2 c_32
    refine fr_aload_n (pc := 35) O 0 dX3_off_35 rfl rfl ?_
    refine fr_get (pc := 36) (k := 1) (v := .ref (gad G 7)) O cl_X3 m_191 (sC_0 hG) (by decide) rfl rfl dX3_off_36 ?_
    refine fr_aload_n (pc := 39) O 0 dX3_off_39 rfl rfl ?_
    refine fr_get (pc := 40) (k := 0) (v := .ref (gad G 1)) O cl_X3 m_190 (sC_0 hG) (by decide) rfl rfl dX3_off_40 ?_
    refine fr_callVV (pc := 43) (st := []) O (tX0_startAs X.2.1 hG rg_7 rg_1 h) mt_X0_startAs mv_X0_startAs m_513 cl_X0 rfl (sC_rig hG rg_7) rfl (by decide) rfl (Nat.le_of_ble_eq_true rfl) dX3_off_43 (fun σ43 h => ?_)
    refine fr_aload_n (pc := 46) O 0 dX3_off_46 rfl rfl ?_
    refine fr_get (pc := 47) (k := 1) (v := .ref (gad G 7)) O cl_X3 m_191 (sC_0 hG) (by decide) rfl rfl dX3_off_47 ?_
    refine fr_iload (pc := 50) O 5 dX3_off_50 rfl ?_
    refine fr_callVV (pc := 52) (st := []) O (tX0_neverJoin X.2.1 hG rg_7 h) mt_X0_neverJoin mv_X0_neverJoin m_580 cl_X0 rfl (sC_rig hG rg_7) rfl (by decide) rfl (Nat.le_of_ble_eq_true rfl) dX3_off_52 (fun σ52 h => ?_)
    refine fr_aload_n (pc := 55) O 0 dX3_off_55 rfl rfl ?_
    refine fr_get (pc := 56) (k := 1) (v := .ref (gad G 7)) O cl_X3 m_191 (sC_0 hG) (by decide) rfl rfl dX3_off_56 ?_
    refine fr_iload_n (pc := 59) O 1 dX3_off_59 rfl rfl ?_
    refine fr_callVV (pc := 60) (st := []) O (tX0_runTicks X.2.1 hG rg_7 h) mt_X0_runTicks mv_X0_runTicks m_499 cl_X0 rfl (sC_rig hG rg_7) rfl (by decide) rfl (Nat.le_of_ble_eq_true rfl) dX3_off_60 (fun σ60 h => ?_)
    refine fr_aload_n (pc := 63) O 0 dX3_off_63 rfl rfl ?_
    refine fr_get (pc := 64) (k := 1) (v := .ref (gad G 7)) O cl_X3 m_191 (sC_0 hG) (by decide) rfl rfl dX3_off_64 ?_
    refine fr_get (pc := 67) (k := 10) (v := .int (σ60 7 10)) O cl_X0 m_98 (sC_rig hG rg_7) (by decide) rfl rfl dX3_off_67 ?_
    refine fr_iload (pc := 70) O 4 dX3_off_70 rfl ?_
    refine fr_icmp_le (pc := 72) (tgt := 87) O dX3_off_72 (by decide) (fun c_72 => ?_) (fun c_72 => ?_)
    · have h := h.1 c_72
      exact kX3_off_B87 hG O hk23 h
    · have h := h.2 c_72
      refine fr_aload_n (pc := 75) O 0 dX3_off_75 rfl rfl ?_
      refine fr_get (pc := 76) (k := 1) (v := .ref (gad G 7)) O cl_X3 m_191 (sC_0 hG) (by decide) rfl rfl dX3_off_76 ?_
      refine fr_get (pc := 79) (k := 10) (v := .int (σ60 7 10)) O cl_X0 m_98 (sC_rig hG rg_7) (by decide) rfl rfl dX3_off_79 ?_
      refine fr_nm (fun y4_82 e_y4_82 => ?_)
      have h := h y4_82 e_y4_82
      refine fr_istore (pc := 82) O [1, 2, 3, 4, 0, 5] (lv' := [(0, .ref (gad G 0)), (1, .int a1), (2, .int a2), (3, .int x3), (4, .int y4_82), (5, .int x5)]) dX3_off_82 (by decide) rfl ?_
      refine fr_iload (pc := 84) O 5 dX3_off_84 rfl ?_
      refine fr_istore_n (pc := 86) O [1, 2, 3, 0, 4, 5] (lv' := [(0, .ref (gad G 0)), (1, .int a1), (2, .int a2), (3, .int x5), (4, .int y4_82), (5, .int x5)]) dX3_off_86 rfl (by decide) rfl ?_
      exact kX3_off_B87 hG O hk23 h
set_option maxRecDepth 20000 in
theorem kX3_off_L23w {X : Cx} {G : Gw} (hG : fw_IsC G) (O : fw_Ok X G cX3_off 6 RX3 7 153 (some .int)) {a1 : Int32} {a2 : Int32} {post : Int32 → Mem → Prop}   {n9 : Nat} {x3 : Int32} {x4 : Int32} {x5 : Int32} {σ : Mem} (h : it3 (qX3_off_L23 a1 a2 post) n9 x3 x4 x5 σ) : fw_At X G 6 (fw_QI X G post) 23 [(0, .ref (gad G 0)), (1, .int a1), (2, .int a2), (3, .int x3), (4, .int x4), (5, .int x5)] [] σ :=
  it3_walk (T := fun x3 x4 x5 σ => fw_At X G 6 (fw_QI X G post) 23 [(0, .ref (gad G 0)), (1, .int a1), (2, .int a2), (3, .int x3), (4, .int x4), (5, .int x5)] [] σ) (fun k23 hk23 x3 x4 x5 σ h => kX3_off_L23 hG O hk23 h) n9 x3 x4 x5 σ h
def qX3_off (a1 : Int32) (a2 : Int32) (σ : Mem) (post : Int32 → Mem → Prop) : Prop := (qX3_asksBest a1 a2 σ (fun r2 σ2 => ((¬ r2 = 0 → (qX3_doneAsItIs a1 σ2 (fun r15 σ15 => ∃ n9, it3 (qX3_off_L23 a1 a2 post) n9 (-4 : Int32) r15 (0 : Int32) σ15))) ∧ (r2 = 0 → post (-1 : Int32) σ2))))
set_option maxRecDepth 20000 in
theorem kX3_off {X : Cx} {G : Gw} (hG : fw_IsC G) (O : fw_Ok X G cX3_off 6 RX3 7 153 (some .int)) {a1 : Int32} {a2 : Int32}  {σ : Mem} {post : Int32 → Mem → Prop} (h : qX3_off a1 a2 σ post) : fw_At X G 6 (fw_QI X G post) 0 [(0, .ref (gad G 0)), (1, .int a1), (2, .int a2)] [] σ := by
  unfold qX3_off at h
  refine fr_iload_n (pc := 0) O 1 dX3_off_0 rfl rfl ?_
  refine fr_iload_n (pc := 1) O 2 dX3_off_1 rfl rfl ?_
  refine fr_callSI (pc := 2) (st := []) O (tX3_asksBest X.2.1 hG  h) mt_X3_asksBest m_550 m_549 rfl (by decide) rfl (Nat.le_of_ble_eq_true rfl) dX3_off_2 (fun r2 σ2 h => ?_)
  refine fr_if_ne (pc := 5) (tgt := 10) O dX3_off_5 (by decide) (fun c_5 => ?_) (fun c_5 => ?_)
  · have h := h.1 c_5
    refine fr_bipush (pc := 10) O (v := (-4 : Int32)) dX3_off_10 (by decide) ?_
    refine fr_istore_n (pc := 12) O [1, 2, 3, 0] (lv' := [(0, .ref (gad G 0)), (1, .int a1), (2, .int a2), (3, .int (-4 : Int32))]) dX3_off_12 rfl (by decide) rfl ?_
    refine fr_aload_n (pc := 13) O 0 dX3_off_13 rfl rfl ?_
    refine fr_iload_n (pc := 14) O 1 dX3_off_14 rfl rfl ?_
    refine fr_callVI (pc := 15) (st := []) O (tX3_doneAsItIs X.2.1 hG  h) mt_X3_doneAsItIs mv_X3_doneAsItIs m_564 cl_X3 rfl (sC_0 hG) rfl (by decide) rfl (Nat.le_of_ble_eq_true rfl) dX3_off_15 (fun r15 σ15 h => ?_)
    refine fr_istore (pc := 18) O [1, 2, 3, 4, 0] (lv' := [(0, .ref (gad G 0)), (1, .int a1), (2, .int a2), (3, .int (-4 : Int32)), (4, .int r15)]) dX3_off_18 (by decide) rfl ?_
    refine fr_iconst (pc := 20) O (v := (0 : Int32)) dX3_off_20 (by decide) ?_
    refine fr_istore (pc := 21) O [1, 2, 3, 4, 5, 0] (lv' := [(0, .ref (gad G 0)), (1, .int a1), (2, .int a2), (3, .int (-4 : Int32)), (4, .int r15), (5, .int (0 : Int32))]) dX3_off_21 (by decide) rfl ?_
    obtain ⟨n9, h⟩ := h
    exact kX3_off_L23w hG O  h
  · have h := h.2 c_5
    refine fr_iconst (pc := 8) O (v := (-1 : Int32)) dX3_off_8 (by decide) ?_
    exact fr_iret (pc := 9) O dX3_off_9 h
theorem tX3_off (l : Launch) {G : Gw} (hG : fw_IsC G) {a1 : Int32} {a2 : Int32}  {σ : Mem} {post : Int32 → Mem → Prop} (h : qX3_off a1 a2 σ post) : fw_CI l G yX3_off cX3_off 6 .int 7 153 [.ref (gad G 0), .int a1, .int a2] σ post := fw_ofI (sok_C hG) (by decide) (Nat.le_of_ble_eq_true rfl) (fun X O => kX3_off hG O  h)
def qX3_asksOdds_B34 (a0 : Int32) (a1 : Int32) (a2 : Int32) (post : Int32 → Mem → Prop) (s0 : Int32) (σ : Mem) : Prop := (isB s0 ∧ post s0 σ)
set_option maxRecDepth 20000 in
theorem kX3_asksOdds_B34 {X : Cx} {G : Gw} (hG : fw_IsC G) (O : fw_Ok X G cX3_asksOdds 3 RX3 1 22 (some .boolean)) {a0 : Int32} {a1 : Int32} {a2 : Int32} {post : Int32 → Mem → Prop}   {s0 : Int32} {σ : Mem} (h : qX3_asksOdds_B34 a0 a1 a2 post s0 σ) : fw_At X G 3 (fw_QI X G post) 34 [(0, .int a0), (1, .int a1), (2, .int a2)] [.int s0] σ := by
  unfold qX3_asksOdds_B34 at h
  exact fr_zret (pc := 34) O dX3_asksOdds_34 h.1 h.2
def qX3_asksOdds_B33 (a0 : Int32) (a1 : Int32) (a2 : Int32) (post : Int32 → Mem → Prop) (σ : Mem) : Prop := qX3_asksOdds_B34 a0 a1 a2 post (0 : Int32) σ
set_option maxRecDepth 20000 in
theorem kX3_asksOdds_B33 {X : Cx} {G : Gw} (hG : fw_IsC G) (O : fw_Ok X G cX3_asksOdds 3 RX3 1 22 (some .boolean)) {a0 : Int32} {a1 : Int32} {a2 : Int32} {post : Int32 → Mem → Prop}    {σ : Mem} (h : qX3_asksOdds_B33 a0 a1 a2 post σ) : fw_At X G 3 (fw_QI X G post) 33 [(0, .int a0), (1, .int a1), (2, .int a2)] [] σ := by
  unfold qX3_asksOdds_B33 at h
  refine fr_iconst (pc := 33) O (v := (0 : Int32)) dX3_asksOdds_33 (by decide) ?_
  exact kX3_asksOdds_B34 hG O  h
def qX3_asksOdds (a0 : Int32) (a1 : Int32) (a2 : Int32) (σ : Mem) (post : Int32 → Mem → Prop) : Prop := (qX3_within a0 (0 : Int32) (10 : Int32) σ (fun r4 σ4 => ((r4 = 0 → qX3_asksOdds_B33 a0 a1 a2 post σ4) ∧ (¬ r4 = 0 → (qX3_within a1 (0 : Int32) (8 : Int32) σ4 (fun r14 σ14 => ((r14 = 0 → qX3_asksOdds_B33 a0 a1 a2 post σ14) ∧ (¬ r14 = 0 → (qX3_within a2 (0 : Int32) (1 : Int32) σ14 (fun r23 σ23 => ((r23 = 0 → qX3_asksOdds_B33 a0 a1 a2 post σ23) ∧ (¬ r23 = 0 → qX3_asksOdds_B34 a0 a1 a2 post (1 : Int32) σ23))))))))))))
set_option maxRecDepth 20000 in
theorem kX3_asksOdds {X : Cx} {G : Gw} (hG : fw_IsC G) (O : fw_Ok X G cX3_asksOdds 3 RX3 1 22 (some .boolean)) {a0 : Int32} {a1 : Int32} {a2 : Int32}  {σ : Mem} {post : Int32 → Mem → Prop} (h : qX3_asksOdds a0 a1 a2 σ post) : fw_At X G 3 (fw_QI X G post) 0 [(0, .int a0), (1, .int a1), (2, .int a2)] [] σ := by
  unfold qX3_asksOdds at h
  refine fr_iload_n (pc := 0) O 0 dX3_asksOdds_0 rfl rfl ?_
  refine fr_iconst (pc := 1) O (v := (0 : Int32)) dX3_asksOdds_1 (by decide) ?_
  refine fr_bipush (pc := 2) O (v := (10 : Int32)) dX3_asksOdds_2 (by decide) ?_
  refine fr_callSI (pc := 4) (st := []) O (tX3_within X.2.1 hG  h) mt_X3_within m_238 m_237 rfl (by decide) rfl (Nat.le_of_ble_eq_true rfl) dX3_asksOdds_4 (fun r4 σ4 h => ?_)
  refine fr_if_eq (pc := 7) (tgt := 33) O dX3_asksOdds_7 (by decide) (fun c_7 => ?_) (fun c_7 => ?_)
  · have h := h.1 c_7
    exact kX3_asksOdds_B33 hG O  h
  · have h := h.2 c_7
    refine fr_iload_n (pc := 10) O 1 dX3_asksOdds_10 rfl rfl ?_
    refine fr_iconst (pc := 11) O (v := (0 : Int32)) dX3_asksOdds_11 (by decide) ?_
    refine fr_bipush (pc := 12) O (v := (8 : Int32)) dX3_asksOdds_12 (by decide) ?_
    refine fr_callSI (pc := 14) (st := []) O (tX3_within X.2.1 hG  h) mt_X3_within m_238 m_237 rfl (by decide) rfl (Nat.le_of_ble_eq_true rfl) dX3_asksOdds_14 (fun r14 σ14 h => ?_)
    refine fr_if_eq (pc := 17) (tgt := 33) O dX3_asksOdds_17 (by decide) (fun c_17 => ?_) (fun c_17 => ?_)
    · have h := h.1 c_17
      exact kX3_asksOdds_B33 hG O  h
    · have h := h.2 c_17
      refine fr_iload_n (pc := 20) O 2 dX3_asksOdds_20 rfl rfl ?_
      refine fr_iconst (pc := 21) O (v := (0 : Int32)) dX3_asksOdds_21 (by decide) ?_
      refine fr_iconst (pc := 22) O (v := (1 : Int32)) dX3_asksOdds_22 (by decide) ?_
      refine fr_callSI (pc := 23) (st := []) O (tX3_within X.2.1 hG  h) mt_X3_within m_238 m_237 rfl (by decide) rfl (Nat.le_of_ble_eq_true rfl) dX3_asksOdds_23 (fun r23 σ23 h => ?_)
      refine fr_if_eq (pc := 26) (tgt := 33) O dX3_asksOdds_26 (by decide) (fun c_26 => ?_) (fun c_26 => ?_)
      · have h := h.1 c_26
        exact kX3_asksOdds_B33 hG O  h
      · have h := h.2 c_26
        refine fr_iconst (pc := 29) O (v := (1 : Int32)) dX3_asksOdds_29 (by decide) ?_
        refine fr_goto (pc := 30) (tgt := 34) O dX3_asksOdds_30 (by decide) ?_
        exact kX3_asksOdds_B34 hG O  h
theorem tX3_asksOdds (l : Launch) {G : Gw} (hG : fw_IsC G) {a0 : Int32} {a1 : Int32} {a2 : Int32}  {σ : Mem} {post : Int32 → Mem → Prop} (h : qX3_asksOdds a0 a1 a2 σ post) : fw_CI l G yX3_asksOdds cX3_asksOdds 3 .boolean 1 22 [.int a0, .int a1, .int a2] σ post := fw_ofI (sok_C hG) (by decide) (Nat.le_of_ble_eq_true rfl) (fun X O => kX3_asksOdds hG O  h)
def qX3_runFailing_B65 (a1 : Int32) (a2 : Int32) (post : Mem → Prop) (k13 : Int32 → Mem → Prop) (x3 : Int32) (s1 : Int32) (σ : Mem) : Prop := (qX0_passTick 7 s1 σ (fun σ65 => (∀ y3_68 : Int32, y3_68 = x3 + (1 : Int32) → k13 y3_68 σ65)))
set_option maxRecDepth 20000 in
theorem kX3_runFailing_B65 {X : Cx} {G : Gw} (hG : fw_IsC G) (O : fw_Ok X G cX3_runFailing 6 RX3 5 110 none) {a1 : Int32} {a2 : Int32} {post : Mem → Prop} {k13 : Int32 → Mem → Prop}  (hk13 : ∀ (x3 : Int32) (σ : Mem), k13 x3 σ → fw_At X G 6 (fw_QV X G post) 13 [(0, .ref (gad G 0)), (1, .int a1), (2, .int a2), (3, .int x3)] [] σ) {x3 : Int32} {s1 : Int32} {σ : Mem} (h : qX3_runFailing_B65 a1 a2 post k13 x3 s1 σ) : fw_At X G 6 (fw_QV X G post) 65 [(0, .ref (gad G 0)), (1, .int a1), (2, .int a2), (3, .int x3)] [.int s1, .ref (gad G 7)] σ := by
  unfold qX3_runFailing_B65 at h
  refine fr_callVV (pc := 65) (st := []) O (tX0_passTick X.2.1 hG rg_7 h) mt_X0_passTick mv_X0_passTick m_518 cl_X0 rfl (sC_rig hG rg_7) rfl (by decide) rfl (Nat.le_of_ble_eq_true rfl) dX3_runFailing_65 (fun σ65 h => ?_)
  refine fr_iinc (pc := 68) O 3 [1, 2, 3, 0] (w := (1 : Int32)) (lvF := fun y3_68 => [(0, .ref (gad G 0)), (1, .int a1), (2, .int a2), (3, .int y3_68)]) dX3_runFailing_68 rfl (by decide) (by decide) (fun _ => rfl) (fun y3_68 e_y3_68 => ?_)
  have h := h y3_68 e_y3_68
  refine fr_goto (pc := 71) (tgt := 13) O dX3_runFailing_71 (by decide) ?_
  exact hk13 _ _ h
def qX3_runFailing_B48 (a1 : Int32) (a2 : Int32) (post : Mem → Prop) (k13 : Int32 → Mem → Prop) (x3 : Int32) (x4 : Int32) (s0 : Int32) (σ : Mem) : Prop := ((s0 = 0 → qX3_runFailing_B65 a1 a2 post k13 x3 x4 σ) ∧ (¬ s0 = 0 → qX3_runFailing_B65 a1 a2 post k13 x3 (0 : Int32) σ))
set_option maxRecDepth 20000 in
theorem kX3_runFailing_B48 {X : Cx} {G : Gw} (hG : fw_IsC G) (O : fw_Ok X G cX3_runFailing 6 RX3 5 110 none) {a1 : Int32} {a2 : Int32} {post : Mem → Prop} {k13 : Int32 → Mem → Prop}  (hk13 : ∀ (x3 : Int32) (σ : Mem), k13 x3 σ → fw_At X G 6 (fw_QV X G post) 13 [(0, .ref (gad G 0)), (1, .int a1), (2, .int a2), (3, .int x3)] [] σ) {x3 : Int32} {x4 : Int32} {s0 : Int32} {σ : Mem} (h : qX3_runFailing_B48 a1 a2 post k13 x3 x4 s0 σ) : fw_At X G 6 (fw_QV X G post) 48 [(0, .ref (gad G 0)), (1, .int a1), (2, .int a2), (3, .int x3), (4, .int x4)] [.int s0] σ := by
  unfold qX3_runFailing_B48 at h
  refine fr_istore (pc := 48) O [1, 2, 3, 4, 5, 0] (lv' := [(0, .ref (gad G 0)), (1, .int a1), (2, .int a2), (3, .int x3), (4, .int x4), (5, .int s0)]) dX3_runFailing_48 (by decide) rfl ?_
  refine fr_aload_n (pc := 50) O 0 dX3_runFailing_50 rfl rfl ?_
  refine fr_get (pc := 51) (k := 1) (v := .ref (gad G 7)) O cl_X3 m_191 (sC_0 hG) (by decide) rfl rfl dX3_runFailing_51 ?_
  refine fr_iload (pc := 54) O 5 dX3_runFailing_54 rfl ?_
  refine fr_if_eq (pc := 56) (tgt := 63) O dX3_runFailing_56 (by decide) (fun c_56 => ?_) (fun c_56 => ?_)
  · have h := h.1 c_56
    refine fr_iload (pc := 63) O 4 dX3_runFailing_63 rfl ?_
    refine fw_sub (lv' := [(0, .ref (gad G 0)), (1, .int a1), (2, .int a2), (3, .int x3)]) [0, 1, 2, 3] rfl ?_
    exact kX3_runFailing_B65 hG O hk13 h
  · have h := h.2 c_56
    refine fr_iconst (pc := 59) O (v := (0 : Int32)) dX3_runFailing_59 (by decide) ?_
    refine fr_goto (pc := 60) (tgt := 65) O dX3_runFailing_60 (by decide) ?_
    refine fw_sub (lv' := [(0, .ref (gad G 0)), (1, .int a1), (2, .int a2), (3, .int x3)]) [0, 1, 2, 3] rfl ?_
    exact kX3_runFailing_B65 hG O hk13 h
def qX3_runFailing_B47 (a1 : Int32) (a2 : Int32) (post : Mem → Prop) (k13 : Int32 → Mem → Prop) (x3 : Int32) (x4 : Int32) (σ : Mem) : Prop := qX3_runFailing_B48 a1 a2 post k13 x3 x4 (0 : Int32) σ
set_option maxRecDepth 20000 in
theorem kX3_runFailing_B47 {X : Cx} {G : Gw} (hG : fw_IsC G) (O : fw_Ok X G cX3_runFailing 6 RX3 5 110 none) {a1 : Int32} {a2 : Int32} {post : Mem → Prop} {k13 : Int32 → Mem → Prop}  (hk13 : ∀ (x3 : Int32) (σ : Mem), k13 x3 σ → fw_At X G 6 (fw_QV X G post) 13 [(0, .ref (gad G 0)), (1, .int a1), (2, .int a2), (3, .int x3)] [] σ) {x3 : Int32} {x4 : Int32} {σ : Mem} (h : qX3_runFailing_B47 a1 a2 post k13 x3 x4 σ) : fw_At X G 6 (fw_QV X G post) 47 [(0, .ref (gad G 0)), (1, .int a1), (2, .int a2), (3, .int x3), (4, .int x4)] [] σ := by
  unfold qX3_runFailing_B47 at h
  refine fr_iconst (pc := 47) O (v := (0 : Int32)) dX3_runFailing_47 (by decide) ?_
  exact kX3_runFailing_B48 hG O hk13 h
def qX3_runFailing_L13 (a1 : Int32) (a2 : Int32) (post : Mem → Prop) (k13 : Int32 → Mem → Prop) (x3 : Int32) (σ : Mem) : Prop := ((a2 ≤ x3 → post σ) ∧ (¬ a2 ≤ x3 → (qX0_dueAct 7 σ (fun r22 σ22 => ((¬ ((a1 >>> (x3 &&& 31)) &&& (1 : Int32)) = (1 : Int32) → qX3_runFailing_B47 a1 a2 post k13 x3 r22 σ22) ∧ (((a1 >>> (x3 &&& 31)) &&& (1 : Int32)) = (1 : Int32) → (((100 : Int32) ≤ r22 → qX3_runFailing_B47 a1 a2 post k13 x3 r22 σ22) ∧ (¬ (100 : Int32) ≤ r22 → qX3_runFailing_B48 a1 a2 post k13 x3 r22 (1 : Int32) σ22))))))))
set_option maxRecDepth 20000 in
theorem kX3_runFailing_L13 {X : Cx} {G : Gw} (hG : fw_IsC G) (O : fw_Ok X G cX3_runFailing 6 RX3 5 110 none) {a1 : Int32} {a2 : Int32} {post : Mem → Prop} {k13 : Int32 → Mem → Prop}  (hk13 : ∀ (x3 : Int32) (σ : Mem), k13 x3 σ → fw_At X G 6 (fw_QV X G post) 13 [(0, .ref (gad G 0)), (1, .int a1), (2, .int a2), (3, .int x3)] [] σ) {x3 : Int32} {σ : Mem} (h : qX3_runFailing_L13 a1 a2 post k13 x3 σ) : fw_At X G 6 (fw_QV X G post) 13 [(0, .ref (gad G 0)), (1, .int a1), (2, .int a2), (3, .int x3)] [] σ := by
  unfold qX3_runFailing_L13 at h
  refine fr_iload_n (pc := 13) O 3 dX3_runFailing_13 rfl rfl ?_
  refine fr_iload_n (pc := 14) O 2 dX3_runFailing_14 rfl rfl ?_
  refine fr_icmp_ge (pc := 15) (tgt := 74) O dX3_runFailing_15 (by decide) (fun c_15 => ?_) (fun c_15 => ?_)
  · have h := h.1 c_15
    exact fr_vret (pc := 74) O dX3_runFailing_74 h
  · have h := h.2 c_15
    refine fr_aload_n (pc := 18) O 0 dX3_runFailing_18 rfl rfl ?_
    refine fr_get (pc := 19) (k := 1) (v := .ref (gad G 7)) O cl_X3 m_191 (sC_0 hG) (by decide) rfl rfl dX3_runFailing_19 ?_
    refine fr_callVI (pc := 22) (st := []) O (tX0_dueAct X.2.1 hG rg_7 h) mt_X0_dueAct mv_X0_dueAct m_405 cl_X0 rfl (sC_rig hG rg_7) rfl (by decide) rfl (Nat.le_of_ble_eq_true rfl) dX3_runFailing_22 (fun r22 σ22 h => ?_)
    refine fr_istore (pc := 25) O [1, 2, 3, 4, 0] (lv' := [(0, .ref (gad G 0)), (1, .int a1), (2, .int a2), (3, .int x3), (4, .int r22)]) dX3_runFailing_25 (by decide) rfl ?_
    refine fr_iload_n (pc := 27) O 1 dX3_runFailing_27 rfl rfl ?_
    refine fr_iload_n (pc := 28) O 3 dX3_runFailing_28 rfl rfl ?_
    refine fr_ishr (pc := 29) O dX3_runFailing_29 ?_
    refine fr_iconst (pc := 30) O (v := (1 : Int32)) dX3_runFailing_30 (by decide) ?_
    refine fr_iand (pc := 31) O dX3_runFailing_31 ?_
    refine fr_iconst (pc := 32) O (v := (1 : Int32)) dX3_runFailing_32 (by decide) ?_
    refine fr_icmp_ne (pc := 33) (tgt := 47) O dX3_runFailing_33 (by decide) (fun c_33 => ?_) (fun c_33 => ?_)
    · have h := h.1 c_33
      exact kX3_runFailing_B47 hG O hk13 h
    · have h := h.2 c_33
      refine fr_iload (pc := 36) O 4 dX3_runFailing_36 rfl ?_
      refine fr_bipush (pc := 38) O (v := (100 : Int32)) dX3_runFailing_38 (by decide) ?_
      refine fr_icmp_ge (pc := 40) (tgt := 47) O dX3_runFailing_40 (by decide) (fun c_40 => ?_) (fun c_40 => ?_)
      · have h := h.1 c_40
        exact kX3_runFailing_B47 hG O hk13 h
      · have h := h.2 c_40
        refine fr_iconst (pc := 43) O (v := (1 : Int32)) dX3_runFailing_43 (by decide) ?_
        refine fr_goto (pc := 44) (tgt := 48) O dX3_runFailing_44 (by decide) ?_
        exact kX3_runFailing_B48 hG O hk13 h
set_option maxRecDepth 20000 in
theorem kX3_runFailing_L13w {X : Cx} {G : Gw} (hG : fw_IsC G) (O : fw_Ok X G cX3_runFailing 6 RX3 5 110 none) {a1 : Int32} {a2 : Int32} {post : Mem → Prop}   {n9 : Nat} {x3 : Int32} {σ : Mem} (h : it1 (qX3_runFailing_L13 a1 a2 post) n9 x3 σ) : fw_At X G 6 (fw_QV X G post) 13 [(0, .ref (gad G 0)), (1, .int a1), (2, .int a2), (3, .int x3)] [] σ :=
  it1_walk (T := fun x3 σ => fw_At X G 6 (fw_QV X G post) 13 [(0, .ref (gad G 0)), (1, .int a1), (2, .int a2), (3, .int x3)] [] σ) (fun k13 hk13 x3 σ h => kX3_runFailing_L13 hG O hk13 h) n9 x3 σ h
def qX3_runFailing (a1 : Int32) (a2 : Int32) (σ : Mem) (post : Mem → Prop) : Prop := (qX0_startAs 7 1 σ (fun σ8 => ∃ n9, it1 (qX3_runFailing_L13 a1 a2 post) n9 (0 : Int32) σ8))
set_option maxRecDepth 20000 in
theorem kX3_runFailing {X : Cx} {G : Gw} (hG : fw_IsC G) (O : fw_Ok X G cX3_runFailing 6 RX3 5 110 none) {a1 : Int32} {a2 : Int32}  {σ : Mem} {post : Mem → Prop} (h : qX3_runFailing a1 a2 σ post) : fw_At X G 6 (fw_QV X G post) 0 [(0, .ref (gad G 0)), (1, .int a1), (2, .int a2)] [] σ := by
  unfold qX3_runFailing at h
  refine fr_aload_n (pc := 0) O 0 dX3_runFailing_0 rfl rfl ?_
  refine fr_get (pc := 1) (k := 1) (v := .ref (gad G 7)) O cl_X3 m_191 (sC_0 hG) (by decide) rfl rfl dX3_runFailing_1 ?_
  refine fr_aload_n (pc := 4) O 0 dX3_runFailing_4 rfl rfl ?_
  refine fr_get (pc := 5) (k := 0) (v := .ref (gad G 1)) O cl_X3 m_190 (sC_0 hG) (by decide) rfl rfl dX3_runFailing_5 ?_
  refine fr_callVV (pc := 8) (st := []) O (tX0_startAs X.2.1 hG rg_7 rg_1 h) mt_X0_startAs mv_X0_startAs m_513 cl_X0 rfl (sC_rig hG rg_7) rfl (by decide) rfl (Nat.le_of_ble_eq_true rfl) dX3_runFailing_8 (fun σ8 h => ?_)
  refine fr_iconst (pc := 11) O (v := (0 : Int32)) dX3_runFailing_11 (by decide) ?_
  refine fr_istore_n (pc := 12) O [1, 2, 3, 0] (lv' := [(0, .ref (gad G 0)), (1, .int a1), (2, .int a2), (3, .int (0 : Int32))]) dX3_runFailing_12 rfl (by decide) rfl ?_
  obtain ⟨n9, h⟩ := h
  exact kX3_runFailing_L13w hG O  h
theorem tX3_runFailing (l : Launch) {G : Gw} (hG : fw_IsC G) {a1 : Int32} {a2 : Int32}  {σ : Mem} {post : Mem → Prop} (h : qX3_runFailing a1 a2 σ post) : fw_CV l G yX3_runFailing cX3_runFailing 6 5 110 [.ref (gad G 0), .int a1, .int a2] σ post := fw_ofV (sok_C hG) (by decide) (Nat.le_of_ble_eq_true rfl) (fun X O => kX3_runFailing hG O  h)
def qX3_weightOf_B32 (a0 : Int32) (a1 : Int32) (a2 : Int32) (post : Int64 → Mem → Prop) (k5 : Int64 → Int32 → Mem → Prop) (x5 : Int32) (s0 : Int64) (s1 : Int64) (σ : Mem) : Prop := (∀ y3_33 : Int64, y3_33 = s0 * s1 → (∀ y5_34 : Int32, y5_34 = x5 + (1 : Int32) → k5 y3_33 y5_34 σ))
set_option maxRecDepth 20000 in
theorem kX3_weightOf_B32 {X : Cx} {G : Gw} (hG : fw_IsC G) (O : fw_Ok X G cX3_weightOf 6 RX3 0 0 (some .long)) {a0 : Int32} {a1 : Int32} {a2 : Int32} {post : Int64 → Mem → Prop} {k5 : Int64 → Int32 → Mem → Prop}  (hk5 : ∀ (x3 : Int64) (x5 : Int32) (σ : Mem), k5 x3 x5 σ → fw_At X G 6 (fw_QL X G post) 5 [(0, .int a0), (1, .int a1), (2, .int a2), (3, .long x3), (5, .int x5)] [] σ) {x5 : Int32} {s0 : Int64} {s1 : Int64} {σ : Mem} (h : qX3_weightOf_B32 a0 a1 a2 post k5 x5 s0 s1 σ) : fw_At X G 6 (fw_QL X G post) 32 [(0, .int a0), (1, .int a1), (2, .int a2), (5, .int x5)] [.long s1, .long s0] σ := by
  unfold qX3_weightOf_B32 at h
  refine fr_lmul (pc := 32) O dX3_weightOf_32 ?_
  refine fr_nml (fun y3_33 e_y3_33 => ?_)
  have h := h y3_33 e_y3_33
  refine fr_lstore_n (pc := 33) O [1, 2, 3, 0, 4] (lv' := [(0, .int a0), (1, .int a1), (2, .int a2), (3, .long y3_33), (5, .int x5)]) dX3_weightOf_33 rfl (by decide) rfl ?_
  refine fr_iinc (pc := 34) O 4 [1, 2, 3, 4, 0] (w := (1 : Int32)) (lvF := fun y5_34 => [(0, .int a0), (1, .int a1), (2, .int a2), (3, .long y3_33), (5, .int y5_34)]) dX3_weightOf_34 rfl (by decide) (by decide) (fun _ => rfl) (fun y5_34 e_y5_34 => ?_)
  have h := h y5_34 e_y5_34
  refine fr_goto (pc := 37) (tgt := 5) O dX3_weightOf_37 (by decide) ?_
  exact hk5 _ _ _ h
def qX3_weightOf_L5 (a0 : Int32) (a1 : Int32) (a2 : Int32) (post : Int64 → Mem → Prop) (k5 : Int64 → Int32 → Mem → Prop) (x3 : Int64) (x5 : Int32) (σ : Mem) : Prop := ((a2 ≤ x5 → post x3 σ) ∧ (¬ a2 ≤ x5 → ((¬ ((a0 >>> (x5 &&& 31)) &&& (1 : Int32)) = (1 : Int32) → qX3_weightOf_B32 a0 a1 a2 post k5 x5 x3 (((10 : Int32) - a1).toInt64) σ) ∧ (((a0 >>> (x5 &&& 31)) &&& (1 : Int32)) = (1 : Int32) → qX3_weightOf_B32 a0 a1 a2 post k5 x5 x3 a1.toInt64 σ))))
set_option maxRecDepth 20000 in
theorem kX3_weightOf_L5 {X : Cx} {G : Gw} (hG : fw_IsC G) (O : fw_Ok X G cX3_weightOf 6 RX3 0 0 (some .long)) {a0 : Int32} {a1 : Int32} {a2 : Int32} {post : Int64 → Mem → Prop} {k5 : Int64 → Int32 → Mem → Prop}  (hk5 : ∀ (x3 : Int64) (x5 : Int32) (σ : Mem), k5 x3 x5 σ → fw_At X G 6 (fw_QL X G post) 5 [(0, .int a0), (1, .int a1), (2, .int a2), (3, .long x3), (5, .int x5)] [] σ) {x3 : Int64} {x5 : Int32} {σ : Mem} (h : qX3_weightOf_L5 a0 a1 a2 post k5 x3 x5 σ) : fw_At X G 6 (fw_QL X G post) 5 [(0, .int a0), (1, .int a1), (2, .int a2), (3, .long x3), (5, .int x5)] [] σ := by
  unfold qX3_weightOf_L5 at h
  refine fr_iload (pc := 5) O 4 dX3_weightOf_5 rfl ?_
  refine fr_iload_n (pc := 7) O 2 dX3_weightOf_7 rfl rfl ?_
  refine fr_icmp_ge (pc := 8) (tgt := 40) O dX3_weightOf_8 (by decide) (fun c_8 => ?_) (fun c_8 => ?_)
  · have h := h.1 c_8
    refine fr_lload_n (pc := 40) O 3 dX3_weightOf_40 rfl rfl ?_
    exact fr_lret (pc := 41) O dX3_weightOf_41 h
  · have h := h.2 c_8
    refine fr_lload_n (pc := 11) O 3 dX3_weightOf_11 rfl rfl ?_
    refine fr_iload_n (pc := 12) O 0 dX3_weightOf_12 rfl rfl ?_
    refine fr_iload (pc := 13) O 4 dX3_weightOf_13 rfl ?_
    refine fr_ishr (pc := 15) O dX3_weightOf_15 ?_
    refine fr_iconst (pc := 16) O (v := (1 : Int32)) dX3_weightOf_16 (by decide) ?_
    refine fr_iand (pc := 17) O dX3_weightOf_17 ?_
    refine fr_iconst (pc := 18) O (v := (1 : Int32)) dX3_weightOf_18 (by decide) ?_
    refine fr_icmp_ne (pc := 19) (tgt := 27) O dX3_weightOf_19 (by decide) (fun c_19 => ?_) (fun c_19 => ?_)
    · have h := h.1 c_19
      refine fr_bipush (pc := 27) O (v := (10 : Int32)) dX3_weightOf_27 (by decide) ?_
      refine fr_iload_n (pc := 29) O 1 dX3_weightOf_29 rfl rfl ?_
      refine fr_isub (pc := 30) O dX3_weightOf_30 ?_
      refine fr_i2l (pc := 31) O dX3_weightOf_31 ?_
      refine fw_sub (lv' := [(0, .int a0), (1, .int a1), (2, .int a2), (5, .int x5)]) [0, 1, 2, 4] rfl ?_
      exact kX3_weightOf_B32 hG O hk5 h
    · have h := h.2 c_19
      refine fr_iload_n (pc := 22) O 1 dX3_weightOf_22 rfl rfl ?_
      refine fr_i2l (pc := 23) O dX3_weightOf_23 ?_
      refine fr_goto (pc := 24) (tgt := 32) O dX3_weightOf_24 (by decide) ?_
      refine fw_sub (lv' := [(0, .int a0), (1, .int a1), (2, .int a2), (5, .int x5)]) [0, 1, 2, 4] rfl ?_
      exact kX3_weightOf_B32 hG O hk5 h
set_option maxRecDepth 20000 in
theorem kX3_weightOf_L5w {X : Cx} {G : Gw} (hG : fw_IsC G) (O : fw_Ok X G cX3_weightOf 6 RX3 0 0 (some .long)) {a0 : Int32} {a1 : Int32} {a2 : Int32} {post : Int64 → Mem → Prop}   {n9 : Nat} {x3 : Int64} {x5 : Int32} {σ : Mem} (h : it2 (qX3_weightOf_L5 a0 a1 a2 post) n9 x3 x5 σ) : fw_At X G 6 (fw_QL X G post) 5 [(0, .int a0), (1, .int a1), (2, .int a2), (3, .long x3), (5, .int x5)] [] σ :=
  it2_walk (T := fun x3 x5 σ => fw_At X G 6 (fw_QL X G post) 5 [(0, .int a0), (1, .int a1), (2, .int a2), (3, .long x3), (5, .int x5)] [] σ) (fun k5 hk5 x3 x5 σ h => kX3_weightOf_L5 hG O hk5 h) n9 x3 x5 σ h
def qX3_weightOf (a0 : Int32) (a1 : Int32) (a2 : Int32) (σ : Mem) (post : Int64 → Mem → Prop) : Prop := ∃ n9, it2 (qX3_weightOf_L5 a0 a1 a2 post) n9 (1 : Int64) (0 : Int32) σ
set_option maxRecDepth 20000 in
theorem kX3_weightOf {X : Cx} {G : Gw} (hG : fw_IsC G) (O : fw_Ok X G cX3_weightOf 6 RX3 0 0 (some .long)) {a0 : Int32} {a1 : Int32} {a2 : Int32}  {σ : Mem} {post : Int64 → Mem → Prop} (h : qX3_weightOf a0 a1 a2 σ post) : fw_At X G 6 (fw_QL X G post) 0 [(0, .int a0), (1, .int a1), (2, .int a2)] [] σ := by
  unfold qX3_weightOf at h
  refine fr_lconst (pc := 0) O (v := (1 : Int64)) dX3_weightOf_0 (by decide) ?_
  refine fr_lstore_n (pc := 1) O [1, 2, 3, 0] (lv' := [(0, .int a0), (1, .int a1), (2, .int a2), (3, .long (1 : Int64))]) dX3_weightOf_1 rfl (by decide) rfl ?_
  refine fr_iconst (pc := 2) O (v := (0 : Int32)) dX3_weightOf_2 (by decide) ?_
  refine fr_istore (pc := 3) O [1, 2, 3, 4, 0] (lv' := [(0, .int a0), (1, .int a1), (2, .int a2), (3, .long (1 : Int64)), (5, .int (0 : Int32))]) dX3_weightOf_3 (by decide) rfl ?_
  obtain ⟨n9, h⟩ := h
  exact kX3_weightOf_L5w hG O  h
theorem tX3_weightOf (l : Launch) {G : Gw} (hG : fw_IsC G) {a0 : Int32} {a1 : Int32} {a2 : Int32}  {σ : Mem} {post : Int64 → Mem → Prop} (h : qX3_weightOf a0 a1 a2 σ post) : fw_CL l G yX3_weightOf cX3_weightOf 6 0 0 [.int a0, .int a1, .int a2] σ post := fw_ofL (sok_C hG) (by decide) (Nat.le_of_ble_eq_true rfl) (fun X O => kX3_weightOf hG O  h)
def qX3_allWeights_L4 (a0 : Int32) (post : Int64 → Mem → Prop) (k4 : Int64 → Int32 → Mem → Prop) (x1 : Int64) (x3 : Int32) (σ : Mem) : Prop := ((a0 ≤ x3 → post x1 σ) ∧ (¬ a0 ≤ x3 → (∀ y1_14 : Int64, y1_14 = x1 * (10 : Int64) → (∀ y3_15 : Int32, y3_15 = x3 + (1 : Int32) → k4 y1_14 y3_15 σ))))
set_option maxRecDepth 20000 in
theorem kX3_allWeights_L4 {X : Cx} {G : Gw} (hG : fw_IsC G) (O : fw_Ok X G cX3_allWeights 4 RX3 0 0 (some .long)) {a0 : Int32} {post : Int64 → Mem → Prop} {k4 : Int64 → Int32 → Mem → Prop}  (hk4 : ∀ (x1 : Int64) (x3 : Int32) (σ : Mem), k4 x1 x3 σ → fw_At X G 4 (fw_QL X G post) 4 [(0, .int a0), (1, .long x1), (3, .int x3)] [] σ) {x1 : Int64} {x3 : Int32} {σ : Mem} (h : qX3_allWeights_L4 a0 post k4 x1 x3 σ) : fw_At X G 4 (fw_QL X G post) 4 [(0, .int a0), (1, .long x1), (3, .int x3)] [] σ := by
  unfold qX3_allWeights_L4 at h
  refine fr_iload_n (pc := 4) O 2 dX3_allWeights_4 rfl rfl ?_
  refine fr_iload_n (pc := 5) O 0 dX3_allWeights_5 rfl rfl ?_
  refine fr_icmp_ge (pc := 6) (tgt := 21) O dX3_allWeights_6 (by decide) (fun c_6 => ?_) (fun c_6 => ?_)
  · have h := h.1 c_6
    refine fr_lload_n (pc := 21) O 1 dX3_allWeights_21 rfl rfl ?_
    exact fr_lret (pc := 22) O dX3_allWeights_22 h
  · have h := h.2 c_6
    refine fr_lload_n (pc := 9) O 1 dX3_allWeights_9 rfl rfl ?_
    refine fr_ldc2 (pc := 10) O m_602 dX3_allWeights_10 ?_
    refine fr_lmul (pc := 13) O dX3_allWeights_13 ?_
    refine fr_nml (fun y1_14 e_y1_14 => ?_)
    have h := h y1_14 e_y1_14
    refine fr_lstore_n (pc := 14) O [1, 0, 2] (lv' := [(0, .int a0), (1, .long y1_14), (3, .int x3)]) dX3_allWeights_14 rfl (by decide) rfl ?_
    refine fr_iinc (pc := 15) O 2 [1, 2, 0] (w := (1 : Int32)) (lvF := fun y3_15 => [(0, .int a0), (1, .long y1_14), (3, .int y3_15)]) dX3_allWeights_15 rfl (by decide) (by decide) (fun _ => rfl) (fun y3_15 e_y3_15 => ?_)
    have h := h y3_15 e_y3_15
    refine fr_goto (pc := 18) (tgt := 4) O dX3_allWeights_18 (by decide) ?_
    exact hk4 _ _ _ h
set_option maxRecDepth 20000 in
theorem kX3_allWeights_L4w {X : Cx} {G : Gw} (hG : fw_IsC G) (O : fw_Ok X G cX3_allWeights 4 RX3 0 0 (some .long)) {a0 : Int32} {post : Int64 → Mem → Prop}   {n9 : Nat} {x1 : Int64} {x3 : Int32} {σ : Mem} (h : it2 (qX3_allWeights_L4 a0 post) n9 x1 x3 σ) : fw_At X G 4 (fw_QL X G post) 4 [(0, .int a0), (1, .long x1), (3, .int x3)] [] σ :=
  it2_walk (T := fun x1 x3 σ => fw_At X G 4 (fw_QL X G post) 4 [(0, .int a0), (1, .long x1), (3, .int x3)] [] σ) (fun k4 hk4 x1 x3 σ h => kX3_allWeights_L4 hG O hk4 h) n9 x1 x3 σ h
def qX3_allWeights (a0 : Int32) (σ : Mem) (post : Int64 → Mem → Prop) : Prop := ∃ n9, it2 (qX3_allWeights_L4 a0 post) n9 (1 : Int64) (0 : Int32) σ
set_option maxRecDepth 20000 in
theorem kX3_allWeights {X : Cx} {G : Gw} (hG : fw_IsC G) (O : fw_Ok X G cX3_allWeights 4 RX3 0 0 (some .long)) {a0 : Int32}  {σ : Mem} {post : Int64 → Mem → Prop} (h : qX3_allWeights a0 σ post) : fw_At X G 4 (fw_QL X G post) 0 [(0, .int a0)] [] σ := by
  unfold qX3_allWeights at h
  refine fr_lconst (pc := 0) O (v := (1 : Int64)) dX3_allWeights_0 (by decide) ?_
  refine fr_lstore_n (pc := 1) O [1, 0] (lv' := [(0, .int a0), (1, .long (1 : Int64))]) dX3_allWeights_1 rfl (by decide) rfl ?_
  refine fr_iconst (pc := 2) O (v := (0 : Int32)) dX3_allWeights_2 (by decide) ?_
  refine fr_istore_n (pc := 3) O [1, 2, 0] (lv' := [(0, .int a0), (1, .long (1 : Int64)), (3, .int (0 : Int32))]) dX3_allWeights_3 rfl (by decide) rfl ?_
  obtain ⟨n9, h⟩ := h
  exact kX3_allWeights_L4w hG O  h
theorem tX3_allWeights (l : Launch) {G : Gw} (hG : fw_IsC G) {a0 : Int32}  {σ : Mem} {post : Int64 → Mem → Prop} (h : qX3_allWeights a0 σ post) : fw_CL l G yX3_allWeights cX3_allWeights 4 0 0 [.int a0] σ post := fw_ofL (sok_C hG) (by decide) (Nat.le_of_ble_eq_true rfl) (fun X O => kX3_allWeights hG O  h)
def qX3_partOfFraction_B73 (a0 : Int64) (a2 : Int64) (a4 : Int32) (post : Int64 → Mem → Prop) (s0 : Int64) (σ : Mem) : Prop := post s0 σ
set_option maxRecDepth 20000 in
theorem kX3_partOfFraction_B73 {X : Cx} {G : Gw} (hG : fw_IsC G) (O : fw_Ok X G cX3_partOfFraction 12 RX3 0 0 (some .long)) {a0 : Int64} {a2 : Int64} {a4 : Int32} {post : Int64 → Mem → Prop}   {s0 : Int64} {σ : Mem} (h : qX3_partOfFraction_B73 a0 a2 a4 post s0 σ) : fw_At X G 12 (fw_QL X G post) 73 [(0, .long a0), (2, .long a2), (4, .int a4)] [.long s0] σ := by
  unfold qX3_partOfFraction_B73 at h
  exact fr_lret (pc := 73) O dX3_partOfFraction_73 h
def qX3_partOfFraction_B54 (a0 : Int64) (a2 : Int64) (a4 : Int32) (post : Int64 → Mem → Prop) (x5 : Int64) (s0 : Int64) (σ : Mem) : Prop := (((lg_cmp x5 (0 : Int64)) ≤ 0 → qX3_partOfFraction_B73 a0 a2 a4 post s0 σ) ∧ (¬ (lg_cmp x5 (0 : Int64)) ≤ 0 → (¬ x5 = 0 ∧ qX3_partOfFraction_B73 a0 a2 a4 post (s0 / x5) σ)))
set_option maxRecDepth 20000 in
theorem kX3_partOfFraction_B54 {X : Cx} {G : Gw} (hG : fw_IsC G) (O : fw_Ok X G cX3_partOfFraction 12 RX3 0 0 (some .long)) {a0 : Int64} {a2 : Int64} {a4 : Int32} {post : Int64 → Mem → Prop}   {x5 : Int64} {s0 : Int64} {σ : Mem} (h : qX3_partOfFraction_B54 a0 a2 a4 post x5 s0 σ) : fw_At X G 12 (fw_QL X G post) 54 [(0, .long a0), (2, .long a2), (4, .int a4), (5, .long x5)] [.long s0] σ := by
  unfold qX3_partOfFraction_B54 at h
  refine fr_lstore (pc := 54) O [1, 2, 3, 4, 0] (lv' := [(0, .long a0), (2, .long a2), (4, .int a4), (5, .long x5), (9, .long s0)]) dX3_partOfFraction_54 (by decide) rfl ?_
  refine fr_lload (pc := 56) O 3 dX3_partOfFraction_56 rfl ?_
  refine fr_lconst (pc := 58) O (v := (0 : Int64)) dX3_partOfFraction_58 (by decide) ?_
  refine fr_lcmp (pc := 59) O dX3_partOfFraction_59 ?_
  refine fr_if_le (pc := 60) (tgt := 71) O dX3_partOfFraction_60 (by decide) (fun c_60 => ?_) (fun c_60 => ?_)
  · have h := h.1 c_60
    refine fr_lload (pc := 71) O 4 dX3_partOfFraction_71 rfl ?_
    refine fw_sub (lv' := [(0, .long a0), (2, .long a2), (4, .int a4)]) [0, 1, 2] rfl ?_
    exact kX3_partOfFraction_B73 hG O  h
  · have h := h.2 c_60
    refine fr_lload (pc := 63) O 4 dX3_partOfFraction_63 rfl ?_
    refine fr_lload (pc := 65) O 3 dX3_partOfFraction_65 rfl ?_
    refine fr_ldiv (pc := 67) O h.1 dX3_partOfFraction_67 ?_
    have h := h.2
    refine fr_goto (pc := 68) (tgt := 73) O dX3_partOfFraction_68 (by decide) ?_
    refine fw_sub (lv' := [(0, .long a0), (2, .long a2), (4, .int a4)]) [0, 1, 2] rfl ?_
    exact kX3_partOfFraction_B73 hG O  h
def qX3_partOfFraction_B44 (a0 : Int64) (a2 : Int64) (a4 : Int32) (post : Int64 → Mem → Prop) (x5 : Int64) (σ : Mem) : Prop := ((¬ a4 = 0 → qX3_partOfFraction_B54 a0 a2 a4 post x5 a2 σ) ∧ (a4 = 0 → qX3_partOfFraction_B54 a0 a2 a4 post x5 a0 σ))
set_option maxRecDepth 20000 in
theorem kX3_partOfFraction_B44 {X : Cx} {G : Gw} (hG : fw_IsC G) (O : fw_Ok X G cX3_partOfFraction 12 RX3 0 0 (some .long)) {a0 : Int64} {a2 : Int64} {a4 : Int32} {post : Int64 → Mem → Prop}   {x5 : Int64} {σ : Mem} (h : qX3_partOfFraction_B44 a0 a2 a4 post x5 σ) : fw_At X G 12 (fw_QL X G post) 44 [(0, .long a0), (2, .long a2), (4, .int a4), (5, .long x5)] [] σ := by
  unfold qX3_partOfFraction_B44 at h
  refine fr_iload (pc := 44) O 2 dX3_partOfFraction_44 rfl ?_
  refine fr_if_ne (pc := 46) (tgt := 53) O dX3_partOfFraction_46 (by decide) (fun c_46 => ?_) (fun c_46 => ?_)
  · have h := h.1 c_46
    refine fr_lload_n (pc := 53) O 1 dX3_partOfFraction_53 rfl rfl ?_
    exact kX3_partOfFraction_B54 hG O  h
  · have h := h.2 c_46
    refine fr_lload_n (pc := 49) O 0 dX3_partOfFraction_49 rfl rfl ?_
    refine fr_goto (pc := 50) (tgt := 54) O dX3_partOfFraction_50 (by decide) ?_
    exact kX3_partOfFraction_B54 hG O  h
def qX3_partOfFraction_L9 (a0 : Int64) (a2 : Int64) (a4 : Int32) (post : Int64 → Mem → Prop) (k9 : Int64 → Int64 → Int32 → Mem → Prop) (x5 : Int64) (x7 : Int64) (x9 : Int32) (σ : Mem) : Prop := (((100 : Int32) ≤ x9 → qX3_partOfFraction_B44 a0 a2 a4 post x5 σ) ∧ (¬ (100 : Int32) ≤ x9 → (((lg_cmp x7 (0 : Int64)) = 0 → qX3_partOfFraction_B44 a0 a2 a4 post x5 σ) ∧ (¬ (lg_cmp x7 (0 : Int64)) = 0 → (¬ x7 = 0 ∧ (∀ y10_28 : Int64, y10_28 = x5 - x5 / x7 * x7 → (∀ y9_38 : Int32, y9_38 = x9 + (1 : Int32) → k9 x7 y10_28 y9_38 σ)))))))
set_option maxRecDepth 20000 in
theorem kX3_partOfFraction_L9 {X : Cx} {G : Gw} (hG : fw_IsC G) (O : fw_Ok X G cX3_partOfFraction 12 RX3 0 0 (some .long)) {a0 : Int64} {a2 : Int64} {a4 : Int32} {post : Int64 → Mem → Prop} {k9 : Int64 → Int64 → Int32 → Mem → Prop}  (hk9 : ∀ (x5 : Int64) (x7 : Int64) (x9 : Int32) (σ : Mem), k9 x5 x7 x9 σ → fw_At X G 12 (fw_QL X G post) 9 [(0, .long a0), (2, .long a2), (4, .int a4), (5, .long x5), (7, .long x7), (9, .int x9)] [] σ) {x5 : Int64} {x7 : Int64} {x9 : Int32} {σ : Mem} (h : qX3_partOfFraction_L9 a0 a2 a4 post k9 x5 x7 x9 σ) : fw_At X G 12 (fw_QL X G post) 9 [(0, .long a0), (2, .long a2), (4, .int a4), (5, .long x5), (7, .long x7), (9, .int x9)] [] σ := by
  unfold qX3_partOfFraction_L9 at h
  refine fr_iload (pc := 9) O 5 dX3_partOfFraction_9 rfl ?_
  refine fr_bipush (pc := 11) O (v := (100 : Int32)) dX3_partOfFraction_11 (by decide) ?_
  refine fr_icmp_ge (pc := 13) (tgt := 44) O dX3_partOfFraction_13 (by decide) (fun c_13 => ?_) (fun c_13 => ?_)
  · have h := h.1 c_13
    refine fw_sub (lv' := [(0, .long a0), (2, .long a2), (4, .int a4), (5, .long x5)]) [0, 1, 2, 3] rfl ?_
    exact kX3_partOfFraction_B44 hG O  h
  · have h := h.2 c_13
    refine fr_lload (pc := 16) O 4 dX3_partOfFraction_16 rfl ?_
    refine fr_lconst (pc := 18) O (v := (0 : Int64)) dX3_partOfFraction_18 (by decide) ?_
    refine fr_lcmp (pc := 19) O dX3_partOfFraction_19 ?_
    refine fr_if_eq (pc := 20) (tgt := 44) O dX3_partOfFraction_20 (by decide) (fun c_20 => ?_) (fun c_20 => ?_)
    · have h := h.1 c_20
      refine fw_sub (lv' := [(0, .long a0), (2, .long a2), (4, .int a4), (5, .long x5)]) [0, 1, 2, 3] rfl ?_
      exact kX3_partOfFraction_B44 hG O  h
    · have h := h.2 c_20
      refine fr_lload (pc := 23) O 3 dX3_partOfFraction_23 rfl ?_
      refine fr_lload (pc := 25) O 4 dX3_partOfFraction_25 rfl ?_
      refine fr_lrem (pc := 27) O h.1 dX3_partOfFraction_27 ?_
      have h := h.2
      refine fr_nml (fun y10_28 e_y10_28 => ?_)
      have h := h y10_28 e_y10_28
      refine fr_lstore (pc := 28) O [1, 2, 3, 4, 5, 6, 0] (lv' := [(0, .long a0), (2, .long a2), (4, .int a4), (5, .long x5), (7, .long x7), (9, .int x9), (10, .long y10_28)]) dX3_partOfFraction_28 (by decide) rfl ?_
      refine fr_lload (pc := 30) O 4 dX3_partOfFraction_30 rfl ?_
      refine fr_lstore (pc := 32) O [1, 2, 3, 0, 4, 5, 6] (lv' := [(0, .long a0), (2, .long a2), (4, .int a4), (5, .long x7), (7, .long x7), (9, .int x9), (10, .long y10_28)]) dX3_partOfFraction_32 (by decide) rfl ?_
      refine fr_lload (pc := 34) O 6 dX3_partOfFraction_34 rfl ?_
      refine fr_lstore (pc := 36) O [1, 2, 3, 4, 0, 5, 6] (lv' := [(0, .long a0), (2, .long a2), (4, .int a4), (5, .long x7), (7, .long y10_28), (9, .int x9), (10, .long y10_28)]) dX3_partOfFraction_36 (by decide) rfl ?_
      refine fr_iinc (pc := 38) O 5 [1, 2, 3, 4, 5, 0, 6] (w := (1 : Int32)) (lvF := fun y9_38 => [(0, .long a0), (2, .long a2), (4, .int a4), (5, .long x7), (7, .long y10_28), (9, .int y9_38), (10, .long y10_28)]) dX3_partOfFraction_38 rfl (by decide) (by decide) (fun _ => rfl) (fun y9_38 e_y9_38 => ?_)
      have h := h y9_38 e_y9_38
      refine fr_goto (pc := 41) (tgt := 9) O dX3_partOfFraction_41 (by decide) ?_
      refine fw_sub (lv' := [(0, .long a0), (2, .long a2), (4, .int a4), (5, .long x7), (7, .long y10_28), (9, .int y9_38)]) [0, 1, 2, 3, 4, 5] rfl ?_
      exact hk9 _ _ _ _ h
set_option maxRecDepth 20000 in
theorem kX3_partOfFraction_L9w {X : Cx} {G : Gw} (hG : fw_IsC G) (O : fw_Ok X G cX3_partOfFraction 12 RX3 0 0 (some .long)) {a0 : Int64} {a2 : Int64} {a4 : Int32} {post : Int64 → Mem → Prop}   {n9 : Nat} {x5 : Int64} {x7 : Int64} {x9 : Int32} {σ : Mem} (h : it3 (qX3_partOfFraction_L9 a0 a2 a4 post) n9 x5 x7 x9 σ) : fw_At X G 12 (fw_QL X G post) 9 [(0, .long a0), (2, .long a2), (4, .int a4), (5, .long x5), (7, .long x7), (9, .int x9)] [] σ :=
  it3_walk (T := fun x5 x7 x9 σ => fw_At X G 12 (fw_QL X G post) 9 [(0, .long a0), (2, .long a2), (4, .int a4), (5, .long x5), (7, .long x7), (9, .int x9)] [] σ) (fun k9 hk9 x5 x7 x9 σ h => kX3_partOfFraction_L9 hG O hk9 h) n9 x5 x7 x9 σ h
def qX3_partOfFraction (a0 : Int64) (a2 : Int64) (a4 : Int32) (σ : Mem) (post : Int64 → Mem → Prop) : Prop := ∃ n9, it3 (qX3_partOfFraction_L9 a0 a2 a4 post) n9 a0 a2 (0 : Int32) σ
set_option maxRecDepth 20000 in
theorem kX3_partOfFraction {X : Cx} {G : Gw} (hG : fw_IsC G) (O : fw_Ok X G cX3_partOfFraction 12 RX3 0 0 (some .long)) {a0 : Int64} {a2 : Int64} {a4 : Int32}  {σ : Mem} {post : Int64 → Mem → Prop} (h : qX3_partOfFraction a0 a2 a4 σ post) : fw_At X G 12 (fw_QL X G post) 0 [(0, .long a0), (2, .long a2), (4, .int a4)] [] σ := by
  unfold qX3_partOfFraction at h
  refine fr_lload_n (pc := 0) O 0 dX3_partOfFraction_0 rfl rfl ?_
  refine fr_lstore (pc := 1) O [1, 2, 3, 0] (lv' := [(0, .long a0), (2, .long a2), (4, .int a4), (5, .long a0)]) dX3_partOfFraction_1 (by decide) rfl ?_
  refine fr_lload_n (pc := 3) O 1 dX3_partOfFraction_3 rfl rfl ?_
  refine fr_lstore (pc := 4) O [1, 2, 3, 4, 0] (lv' := [(0, .long a0), (2, .long a2), (4, .int a4), (5, .long a0), (7, .long a2)]) dX3_partOfFraction_4 (by decide) rfl ?_
  refine fr_iconst (pc := 6) O (v := (0 : Int32)) dX3_partOfFraction_6 (by decide) ?_
  refine fr_istore (pc := 7) O [1, 2, 3, 4, 5, 0] (lv' := [(0, .long a0), (2, .long a2), (4, .int a4), (5, .long a0), (7, .long a2), (9, .int (0 : Int32))]) dX3_partOfFraction_7 (by decide) rfl ?_
  obtain ⟨n9, h⟩ := h
  exact kX3_partOfFraction_L9w hG O  h
theorem tX3_partOfFraction (l : Launch) {G : Gw} (hG : fw_IsC G) {a0 : Int64} {a2 : Int64} {a4 : Int32}  {σ : Mem} {post : Int64 → Mem → Prop} (h : qX3_partOfFraction a0 a2 a4 σ post) : fw_CL l G yX3_partOfFraction cX3_partOfFraction 12 0 0 [.long a0, .long a2, .int a4] σ post := fw_ofL (sok_C hG) (by decide) (Nat.le_of_ble_eq_true rfl) (fun X O => kX3_partOfFraction hG O  h)
def qX3_luck_B56 (a1 : Int32) (a2 : Int32) (a3 : Int32) (post : Int64 → Mem → Prop) (k19 : Int64 → Int32 → Mem → Prop) (x4 : Int64) (x6 : Int32) (σ : Mem) : Prop := (∀ y6_56 : Int32, y6_56 = x6 + (1 : Int32) → k19 x4 y6_56 σ)
set_option maxRecDepth 20000 in
theorem kX3_luck_B56 {X : Cx} {G : Gw} (hG : fw_IsC G) (O : fw_Ok X G cX3_luck 7 RX3 6 135 (some .long)) {a1 : Int32} {a2 : Int32} {a3 : Int32} {post : Int64 → Mem → Prop} {k19 : Int64 → Int32 → Mem → Prop}  (hk19 : ∀ (x4 : Int64) (x6 : Int32) (σ : Mem), k19 x4 x6 σ → fw_At X G 7 (fw_QL X G post) 19 [(0, .ref (gad G 0)), (1, .int a1), (2, .int a2), (3, .int a3), (4, .long x4), (6, .int x6)] [] σ) {x4 : Int64} {x6 : Int32} {σ : Mem} (h : qX3_luck_B56 a1 a2 a3 post k19 x4 x6 σ) : fw_At X G 7 (fw_QL X G post) 56 [(0, .ref (gad G 0)), (1, .int a1), (2, .int a2), (3, .int a3), (4, .long x4), (6, .int x6)] [] σ := by
  unfold qX3_luck_B56 at h
  refine fr_iinc (pc := 56) O 5 [1, 2, 3, 4, 5, 0] (w := (1 : Int32)) (lvF := fun y6_56 => [(0, .ref (gad G 0)), (1, .int a1), (2, .int a2), (3, .int a3), (4, .long x4), (6, .int y6_56)]) dX3_luck_56 rfl (by decide) (by decide) (fun _ => rfl) (fun y6_56 e_y6_56 => ?_)
  have h := h y6_56 e_y6_56
  refine fr_goto (pc := 59) (tgt := 19) O dX3_luck_59 (by decide) ?_
  exact hk19 _ _ _ h
def qX3_luck_L19 (a1 : Int32) (a2 : Int32) (a3 : Int32) (post : Int64 → Mem → Prop) (k19 : Int64 → Int32 → Mem → Prop) (x4 : Int64) (x6 : Int32) (σ : Mem) : Prop := ((((1 : Int32) <<< (a2 &&& 31)) ≤ x6 → (qX3_allWeights a2 σ (fun r65 σ65 => (qX3_partOfFraction x4 r65 a3 σ65 (fun r69 σ69 => post r69 σ69))))) ∧ (¬ ((1 : Int32) <<< (a2 &&& 31)) ≤ x6 → (qX3_runFailing x6 a2 σ (fun σ31 => ((¬ (σ31 7 11) = 0 → qX3_luck_B56 a1 a2 a3 post k19 x4 x6 σ31) ∧ ((σ31 7 11) = 0 → (qX3_weightOf x6 a1 a2 σ31 (fun r50 σ50 => (∀ y4_54 : Int64, y4_54 = x4 + r50 → qX3_luck_B56 a1 a2 a3 post k19 y4_54 x6 σ50)))))))))
set_option maxRecDepth 20000 in
theorem kX3_luck_L19 {X : Cx} {G : Gw} (hG : fw_IsC G) (O : fw_Ok X G cX3_luck 7 RX3 6 135 (some .long)) {a1 : Int32} {a2 : Int32} {a3 : Int32} {post : Int64 → Mem → Prop} {k19 : Int64 → Int32 → Mem → Prop}  (hk19 : ∀ (x4 : Int64) (x6 : Int32) (σ : Mem), k19 x4 x6 σ → fw_At X G 7 (fw_QL X G post) 19 [(0, .ref (gad G 0)), (1, .int a1), (2, .int a2), (3, .int a3), (4, .long x4), (6, .int x6)] [] σ) {x4 : Int64} {x6 : Int32} {σ : Mem} (h : qX3_luck_L19 a1 a2 a3 post k19 x4 x6 σ) : fw_At X G 7 (fw_QL X G post) 19 [(0, .ref (gad G 0)), (1, .int a1), (2, .int a2), (3, .int a3), (4, .long x4), (6, .int x6)] [] σ := by
  unfold qX3_luck_L19 at h
  refine fr_iload (pc := 19) O 5 dX3_luck_19 rfl ?_
  refine fr_iconst (pc := 21) O (v := (1 : Int32)) dX3_luck_21 (by decide) ?_
  refine fr_iload_n (pc := 22) O 2 dX3_luck_22 rfl rfl ?_
  refine fr_ishl (pc := 23) O dX3_luck_23 ?_
  refine fr_icmp_ge (pc := 24) (tgt := 62) O dX3_luck_24 (by decide) (fun c_24 => ?_) (fun c_24 => ?_)
  · have h := h.1 c_24
    refine fr_lload (pc := 62) O 4 dX3_luck_62 rfl ?_
    refine fr_iload_n (pc := 64) O 2 dX3_luck_64 rfl rfl ?_
    refine fr_callSL (pc := 65) (st := [.long x4]) O (tX3_allWeights X.2.1 hG  h) mt_X3_allWeights m_600 m_599 rfl (by decide) rfl (Nat.le_of_ble_eq_true rfl) dX3_luck_65 (fun r65 σ65 h => ?_)
    refine fr_iload_n (pc := 68) O 3 dX3_luck_68 rfl rfl ?_
    refine fr_callSL (pc := 69) (st := []) O (tX3_partOfFraction X.2.1 hG  h) mt_X3_partOfFraction m_604 m_603 rfl (by decide) rfl (Nat.le_of_ble_eq_true rfl) dX3_luck_69 (fun r69 σ69 h => ?_)
    exact fr_lret (pc := 72) O dX3_luck_72 h
  · have h := h.2 c_24
    refine fr_aload_n (pc := 27) O 0 dX3_luck_27 rfl rfl ?_
    refine fr_iload (pc := 28) O 5 dX3_luck_28 rfl ?_
    refine fr_iload_n (pc := 30) O 2 dX3_luck_30 rfl rfl ?_
    refine fr_callVV (pc := 31) (st := []) O (tX3_runFailing X.2.1 hG  h) mt_X3_runFailing mv_X3_runFailing m_592 cl_X3 rfl (sC_0 hG) rfl (by decide) rfl (Nat.le_of_ble_eq_true rfl) dX3_luck_31 (fun σ31 h => ?_)
    refine fr_aload_n (pc := 34) O 0 dX3_luck_34 rfl rfl ?_
    refine fr_get (pc := 35) (k := 1) (v := .ref (gad G 7)) O cl_X3 m_191 (sC_0 hG) (by decide) rfl rfl dX3_luck_35 ?_
    refine fr_get (pc := 38) (k := 11) (v := .int (σ31 7 11)) O cl_X0 m_100 (sC_rig hG rg_7) (by decide) rfl rfl dX3_luck_38 ?_
    refine fr_if_ne (pc := 41) (tgt := 56) O dX3_luck_41 (by decide) (fun c_41 => ?_) (fun c_41 => ?_)
    · have h := h.1 c_41
      exact kX3_luck_B56 hG O hk19 h
    · have h := h.2 c_41
      refine fr_lload (pc := 44) O 4 dX3_luck_44 rfl ?_
      refine fr_iload (pc := 46) O 5 dX3_luck_46 rfl ?_
      refine fr_iload_n (pc := 48) O 1 dX3_luck_48 rfl rfl ?_
      refine fr_iload_n (pc := 49) O 2 dX3_luck_49 rfl rfl ?_
      refine fr_callSL (pc := 50) (st := [.long x4]) O (tX3_weightOf X.2.1 hG  h) mt_X3_weightOf m_597 m_596 rfl (by decide) rfl (Nat.le_of_ble_eq_true rfl) dX3_luck_50 (fun r50 σ50 h => ?_)
      refine fr_ladd (pc := 53) O dX3_luck_53 ?_
      refine fr_nml (fun y4_54 e_y4_54 => ?_)
      have h := h y4_54 e_y4_54
      refine fr_lstore (pc := 54) O [1, 2, 3, 4, 0, 5] (lv' := [(0, .ref (gad G 0)), (1, .int a1), (2, .int a2), (3, .int a3), (4, .long y4_54), (6, .int x6)]) dX3_luck_54 (by decide) rfl ?_
      exact kX3_luck_B56 hG O hk19 h
set_option maxRecDepth 20000 in
theorem kX3_luck_L19w {X : Cx} {G : Gw} (hG : fw_IsC G) (O : fw_Ok X G cX3_luck 7 RX3 6 135 (some .long)) {a1 : Int32} {a2 : Int32} {a3 : Int32} {post : Int64 → Mem → Prop}   {n9 : Nat} {x4 : Int64} {x6 : Int32} {σ : Mem} (h : it2 (qX3_luck_L19 a1 a2 a3 post) n9 x4 x6 σ) : fw_At X G 7 (fw_QL X G post) 19 [(0, .ref (gad G 0)), (1, .int a1), (2, .int a2), (3, .int a3), (4, .long x4), (6, .int x6)] [] σ :=
  it2_walk (T := fun x4 x6 σ => fw_At X G 7 (fw_QL X G post) 19 [(0, .ref (gad G 0)), (1, .int a1), (2, .int a2), (3, .int a3), (4, .long x4), (6, .int x6)] [] σ) (fun k19 hk19 x4 x6 σ h => kX3_luck_L19 hG O hk19 h) n9 x4 x6 σ h
def qX3_luck (a1 : Int32) (a2 : Int32) (a3 : Int32) (σ : Mem) (post : Int64 → Mem → Prop) : Prop := (qX3_asksOdds a1 a2 a3 σ (fun r3 σ3 => ((¬ r3 = 0 → ∃ n9, it2 (qX3_luck_L19 a1 a2 a3 post) n9 (0 : Int64) (0 : Int32) σ3) ∧ (r3 = 0 → post (-1 : Int64) σ3))))
set_option maxRecDepth 20000 in
theorem kX3_luck {X : Cx} {G : Gw} (hG : fw_IsC G) (O : fw_Ok X G cX3_luck 7 RX3 6 135 (some .long)) {a1 : Int32} {a2 : Int32} {a3 : Int32}  {σ : Mem} {post : Int64 → Mem → Prop} (h : qX3_luck a1 a2 a3 σ post) : fw_At X G 7 (fw_QL X G post) 0 [(0, .ref (gad G 0)), (1, .int a1), (2, .int a2), (3, .int a3)] [] σ := by
  unfold qX3_luck at h
  refine fr_iload_n (pc := 0) O 1 dX3_luck_0 rfl rfl ?_
  refine fr_iload_n (pc := 1) O 2 dX3_luck_1 rfl rfl ?_
  refine fr_iload_n (pc := 2) O 3 dX3_luck_2 rfl rfl ?_
  refine fr_callSI (pc := 3) (st := []) O (tX3_asksOdds X.2.1 hG  h) mt_X3_asksOdds m_589 m_588 rfl (by decide) rfl (Nat.le_of_ble_eq_true rfl) dX3_luck_3 (fun r3 σ3 h => ?_)
  refine fr_if_ne (pc := 6) (tgt := 13) O dX3_luck_6 (by decide) (fun c_6 => ?_) (fun c_6 => ?_)
  · have h := h.1 c_6
    refine fr_lconst (pc := 13) O (v := (0 : Int64)) dX3_luck_13 (by decide) ?_
    refine fr_lstore (pc := 14) O [1, 2, 3, 4, 0] (lv' := [(0, .ref (gad G 0)), (1, .int a1), (2, .int a2), (3, .int a3), (4, .long (0 : Int64))]) dX3_luck_14 (by decide) rfl ?_
    refine fr_iconst (pc := 16) O (v := (0 : Int32)) dX3_luck_16 (by decide) ?_
    refine fr_istore (pc := 17) O [1, 2, 3, 4, 5, 0] (lv' := [(0, .ref (gad G 0)), (1, .int a1), (2, .int a2), (3, .int a3), (4, .long (0 : Int64)), (6, .int (0 : Int32))]) dX3_luck_17 (by decide) rfl ?_
    obtain ⟨n9, h⟩ := h
    exact kX3_luck_L19w hG O  h
  · have h := h.2 c_6
    refine fr_ldc2 (pc := 9) O m_591 dX3_luck_9 ?_
    exact fr_lret (pc := 12) O dX3_luck_12 h
theorem tX3_luck (l : Launch) {G : Gw} (hG : fw_IsC G) {a1 : Int32} {a2 : Int32} {a3 : Int32}  {σ : Mem} {post : Int64 → Mem → Prop} (h : qX3_luck a1 a2 a3 σ post) : fw_CL l G yX3_luck cX3_luck 7 6 135 [.ref (gad G 0), .int a1, .int a2, .int a3] σ post := fw_ofL (sok_C hG) (by decide) (Nat.le_of_ble_eq_true rfl) (fun X O => kX3_luck hG O  h)
def qX3_mean_L19 (a1 : Int32) (a2 : Int32) (a3 : Int32) (post : Int64 → Mem → Prop) (k19 : Int64 → Int32 → Mem → Prop) (x4 : Int64) (x6 : Int32) (σ : Mem) : Prop := ((((1 : Int32) <<< (a2 &&& 31)) ≤ x6 → (qX3_allWeights a2 σ (fun r64 σ64 => (qX3_partOfFraction x4 r64 a3 σ64 (fun r68 σ68 => post r68 σ68))))) ∧ (¬ ((1 : Int32) <<< (a2 &&& 31)) ≤ x6 → (qX3_runFailing x6 a2 σ (fun σ31 => (qX3_weightOf x6 a1 a2 σ31 (fun r48 σ48 => (∀ y4_53 : Int64, y4_53 = x4 + (((σ31 7 10).toInt64) * r48) → (∀ y6_55 : Int32, y6_55 = x6 + (1 : Int32) → k19 y4_53 y6_55 σ48))))))))
set_option maxRecDepth 20000 in
theorem kX3_mean_L19 {X : Cx} {G : Gw} (hG : fw_IsC G) (O : fw_Ok X G cX3_mean 7 RX3 6 135 (some .long)) {a1 : Int32} {a2 : Int32} {a3 : Int32} {post : Int64 → Mem → Prop} {k19 : Int64 → Int32 → Mem → Prop}  (hk19 : ∀ (x4 : Int64) (x6 : Int32) (σ : Mem), k19 x4 x6 σ → fw_At X G 7 (fw_QL X G post) 19 [(0, .ref (gad G 0)), (1, .int a1), (2, .int a2), (3, .int a3), (4, .long x4), (6, .int x6)] [] σ) {x4 : Int64} {x6 : Int32} {σ : Mem} (h : qX3_mean_L19 a1 a2 a3 post k19 x4 x6 σ) : fw_At X G 7 (fw_QL X G post) 19 [(0, .ref (gad G 0)), (1, .int a1), (2, .int a2), (3, .int a3), (4, .long x4), (6, .int x6)] [] σ := by
  unfold qX3_mean_L19 at h
  refine fr_iload (pc := 19) O 5 dX3_mean_19 rfl ?_
  refine fr_iconst (pc := 21) O (v := (1 : Int32)) dX3_mean_21 (by decide) ?_
  refine fr_iload_n (pc := 22) O 2 dX3_mean_22 rfl rfl ?_
  refine fr_ishl (pc := 23) O dX3_mean_23 ?_
  refine fr_icmp_ge (pc := 24) (tgt := 61) O dX3_mean_24 (by decide) (fun c_24 => ?_) (fun c_24 => ?_)
  · have h := h.1 c_24
    refine fr_lload (pc := 61) O 4 dX3_mean_61 rfl ?_
    refine fr_iload_n (pc := 63) O 2 dX3_mean_63 rfl rfl ?_
    refine fr_callSL (pc := 64) (st := [.long x4]) O (tX3_allWeights X.2.1 hG  h) mt_X3_allWeights m_600 m_599 rfl (by decide) rfl (Nat.le_of_ble_eq_true rfl) dX3_mean_64 (fun r64 σ64 h => ?_)
    refine fr_iload_n (pc := 67) O 3 dX3_mean_67 rfl rfl ?_
    refine fr_callSL (pc := 68) (st := []) O (tX3_partOfFraction X.2.1 hG  h) mt_X3_partOfFraction m_604 m_603 rfl (by decide) rfl (Nat.le_of_ble_eq_true rfl) dX3_mean_68 (fun r68 σ68 h => ?_)
    exact fr_lret (pc := 71) O dX3_mean_71 h
  · have h := h.2 c_24
    refine fr_aload_n (pc := 27) O 0 dX3_mean_27 rfl rfl ?_
    refine fr_iload (pc := 28) O 5 dX3_mean_28 rfl ?_
    refine fr_iload_n (pc := 30) O 2 dX3_mean_30 rfl rfl ?_
    refine fr_callVV (pc := 31) (st := []) O (tX3_runFailing X.2.1 hG  h) mt_X3_runFailing mv_X3_runFailing m_592 cl_X3 rfl (sC_0 hG) rfl (by decide) rfl (Nat.le_of_ble_eq_true rfl) dX3_mean_31 (fun σ31 h => ?_)
    refine fr_lload (pc := 34) O 4 dX3_mean_34 rfl ?_
    refine fr_aload_n (pc := 36) O 0 dX3_mean_36 rfl rfl ?_
    refine fr_get (pc := 37) (k := 1) (v := .ref (gad G 7)) O cl_X3 m_191 (sC_0 hG) (by decide) rfl rfl dX3_mean_37 ?_
    refine fr_get (pc := 40) (k := 10) (v := .int (σ31 7 10)) O cl_X0 m_98 (sC_rig hG rg_7) (by decide) rfl rfl dX3_mean_40 ?_
    refine fr_i2l (pc := 43) O dX3_mean_43 ?_
    refine fr_iload (pc := 44) O 5 dX3_mean_44 rfl ?_
    refine fr_iload_n (pc := 46) O 1 dX3_mean_46 rfl rfl ?_
    refine fr_iload_n (pc := 47) O 2 dX3_mean_47 rfl rfl ?_
    refine fr_callSL (pc := 48) (st := [.long ((σ31 7 10).toInt64), .long x4]) O (tX3_weightOf X.2.1 hG  h) mt_X3_weightOf m_597 m_596 rfl (by decide) rfl (Nat.le_of_ble_eq_true rfl) dX3_mean_48 (fun r48 σ48 h => ?_)
    refine fr_lmul (pc := 51) O dX3_mean_51 ?_
    refine fr_ladd (pc := 52) O dX3_mean_52 ?_
    refine fr_nml (fun y4_53 e_y4_53 => ?_)
    have h := h y4_53 e_y4_53
    refine fr_lstore (pc := 53) O [1, 2, 3, 4, 0, 5] (lv' := [(0, .ref (gad G 0)), (1, .int a1), (2, .int a2), (3, .int a3), (4, .long y4_53), (6, .int x6)]) dX3_mean_53 (by decide) rfl ?_
    refine fr_iinc (pc := 55) O 5 [1, 2, 3, 4, 5, 0] (w := (1 : Int32)) (lvF := fun y6_55 => [(0, .ref (gad G 0)), (1, .int a1), (2, .int a2), (3, .int a3), (4, .long y4_53), (6, .int y6_55)]) dX3_mean_55 rfl (by decide) (by decide) (fun _ => rfl) (fun y6_55 e_y6_55 => ?_)
    have h := h y6_55 e_y6_55
    refine fr_goto (pc := 58) (tgt := 19) O dX3_mean_58 (by decide) ?_
    exact hk19 _ _ _ h
set_option maxRecDepth 20000 in
theorem kX3_mean_L19w {X : Cx} {G : Gw} (hG : fw_IsC G) (O : fw_Ok X G cX3_mean 7 RX3 6 135 (some .long)) {a1 : Int32} {a2 : Int32} {a3 : Int32} {post : Int64 → Mem → Prop}   {n9 : Nat} {x4 : Int64} {x6 : Int32} {σ : Mem} (h : it2 (qX3_mean_L19 a1 a2 a3 post) n9 x4 x6 σ) : fw_At X G 7 (fw_QL X G post) 19 [(0, .ref (gad G 0)), (1, .int a1), (2, .int a2), (3, .int a3), (4, .long x4), (6, .int x6)] [] σ :=
  it2_walk (T := fun x4 x6 σ => fw_At X G 7 (fw_QL X G post) 19 [(0, .ref (gad G 0)), (1, .int a1), (2, .int a2), (3, .int a3), (4, .long x4), (6, .int x6)] [] σ) (fun k19 hk19 x4 x6 σ h => kX3_mean_L19 hG O hk19 h) n9 x4 x6 σ h
def qX3_mean (a1 : Int32) (a2 : Int32) (a3 : Int32) (σ : Mem) (post : Int64 → Mem → Prop) : Prop := (qX3_asksOdds a1 a2 a3 σ (fun r3 σ3 => ((¬ r3 = 0 → ∃ n9, it2 (qX3_mean_L19 a1 a2 a3 post) n9 (0 : Int64) (0 : Int32) σ3) ∧ (r3 = 0 → post (-1 : Int64) σ3))))
set_option maxRecDepth 20000 in
theorem kX3_mean {X : Cx} {G : Gw} (hG : fw_IsC G) (O : fw_Ok X G cX3_mean 7 RX3 6 135 (some .long)) {a1 : Int32} {a2 : Int32} {a3 : Int32}  {σ : Mem} {post : Int64 → Mem → Prop} (h : qX3_mean a1 a2 a3 σ post) : fw_At X G 7 (fw_QL X G post) 0 [(0, .ref (gad G 0)), (1, .int a1), (2, .int a2), (3, .int a3)] [] σ := by
  unfold qX3_mean at h
  refine fr_iload_n (pc := 0) O 1 dX3_mean_0 rfl rfl ?_
  refine fr_iload_n (pc := 1) O 2 dX3_mean_1 rfl rfl ?_
  refine fr_iload_n (pc := 2) O 3 dX3_mean_2 rfl rfl ?_
  refine fr_callSI (pc := 3) (st := []) O (tX3_asksOdds X.2.1 hG  h) mt_X3_asksOdds m_589 m_588 rfl (by decide) rfl (Nat.le_of_ble_eq_true rfl) dX3_mean_3 (fun r3 σ3 h => ?_)
  refine fr_if_ne (pc := 6) (tgt := 13) O dX3_mean_6 (by decide) (fun c_6 => ?_) (fun c_6 => ?_)
  · have h := h.1 c_6
    refine fr_lconst (pc := 13) O (v := (0 : Int64)) dX3_mean_13 (by decide) ?_
    refine fr_lstore (pc := 14) O [1, 2, 3, 4, 0] (lv' := [(0, .ref (gad G 0)), (1, .int a1), (2, .int a2), (3, .int a3), (4, .long (0 : Int64))]) dX3_mean_14 (by decide) rfl ?_
    refine fr_iconst (pc := 16) O (v := (0 : Int32)) dX3_mean_16 (by decide) ?_
    refine fr_istore (pc := 17) O [1, 2, 3, 4, 5, 0] (lv' := [(0, .ref (gad G 0)), (1, .int a1), (2, .int a2), (3, .int a3), (4, .long (0 : Int64)), (6, .int (0 : Int32))]) dX3_mean_17 (by decide) rfl ?_
    obtain ⟨n9, h⟩ := h
    exact kX3_mean_L19w hG O  h
  · have h := h.2 c_6
    refine fr_ldc2 (pc := 9) O m_591 dX3_mean_9 ?_
    exact fr_lret (pc := 12) O dX3_mean_12 h
theorem tX3_mean (l : Launch) {G : Gw} (hG : fw_IsC G) {a1 : Int32} {a2 : Int32} {a3 : Int32}  {σ : Mem} {post : Int64 → Mem → Prop} (h : qX3_mean a1 a2 a3 σ post) : fw_CL l G yX3_mean cX3_mean 7 6 135 [.ref (gad G 0), .int a1, .int a2, .int a3] σ post := fw_ofL (sok_C hG) (by decide) (Nat.le_of_ble_eq_true rfl) (fun X O => kX3_mean hG O  h)
def qX3_see_B31 (a1 : Int32) (a2 : Int32) (a3 : Int32) (post : Int32 → Mem → Prop) (σ : Mem) : Prop := post (-1 : Int32) σ
set_option maxRecDepth 20000 in
theorem kX3_see_B31 {X : Cx} {G : Gw} (hG : fw_IsC G) (O : fw_Ok X G cX3_see 4 RX3 1 22 (some .int)) {a1 : Int32} {a2 : Int32} {a3 : Int32} {post : Int32 → Mem → Prop}    {σ : Mem} (h : qX3_see_B31 a1 a2 a3 post σ) : fw_At X G 4 (fw_QI X G post) 31 [(0, .ref (gad G 0)), (1, .int a1), (2, .int a2), (3, .int a3)] [] σ := by
  unfold qX3_see_B31 at h
  refine fr_iconst (pc := 31) O (v := (-1 : Int32)) dX3_see_31 (by decide) ?_
  exact fr_iret (pc := 32) O dX3_see_32 h
def qX3_see (a1 : Int32) (a2 : Int32) (a3 : Int32) (σ : Mem) (post : Int32 → Mem → Prop) : Prop := (qX3_within a1 (0 : Int32) (40 : Int32) σ (fun r4 σ4 => ((r4 = 0 → qX3_see_B31 a1 a2 a3 post σ4) ∧ (¬ r4 = 0 → (qX0_hasWheel 1 a2 σ4 (fun r15 σ15 => ((r15 = 0 → qX3_see_B31 a1 a2 a3 post σ15) ∧ (¬ r15 = 0 → (qX3_within a3 (0 : Int32) (9999999 : Int32) σ15 (fun r25 σ25 => ((¬ r25 = 0 → (((σ25 0 10) < (6 : Int32) → (vp_in (σ25 0 10) 6 ∧ (∀ σ54 : Mem, σ54 = up2 σ25 44 (σ25 0 10).toNatClampNeg a1 → (vp_in (σ54 0 10) 6 ∧ (∀ σ64 : Mem, σ64 = up2 σ54 45 (σ54 0 10).toNatClampNeg a2 → (vp_in (σ64 0 10) 6 ∧ (∀ σ74 : Mem, σ74 = up2 σ64 46 (σ64 0 10).toNatClampNeg a3 → (∀ σ82 : Mem, σ82 = up2 σ74 0 10 ((σ74 0 10) + (1 : Int32)) → post (σ82 0 10) σ82)))))))) ∧ (¬ (σ25 0 10) < (6 : Int32) → post (-3 : Int32) σ25))) ∧ (r25 = 0 → qX3_see_B31 a1 a2 a3 post σ25))))))))))))
set_option maxRecDepth 20000 in
theorem kX3_see {X : Cx} {G : Gw} (hG : fw_IsC G) (O : fw_Ok X G cX3_see 4 RX3 1 22 (some .int)) {a1 : Int32} {a2 : Int32} {a3 : Int32}  {σ : Mem} {post : Int32 → Mem → Prop} (h : qX3_see a1 a2 a3 σ post) : fw_At X G 4 (fw_QI X G post) 0 [(0, .ref (gad G 0)), (1, .int a1), (2, .int a2), (3, .int a3)] [] σ := by
  unfold qX3_see at h
  refine fr_iload_n (pc := 0) O 1 dX3_see_0 rfl rfl ?_
  refine fr_iconst (pc := 1) O (v := (0 : Int32)) dX3_see_1 (by decide) ?_
  refine fr_bipush (pc := 2) O (v := (40 : Int32)) dX3_see_2 (by decide) ?_
  refine fr_callSI (pc := 4) (st := []) O (tX3_within X.2.1 hG  h) mt_X3_within m_238 m_237 rfl (by decide) rfl (Nat.le_of_ble_eq_true rfl) dX3_see_4 (fun r4 σ4 h => ?_)
  refine fr_if_eq (pc := 7) (tgt := 31) O dX3_see_7 (by decide) (fun c_7 => ?_) (fun c_7 => ?_)
  · have h := h.1 c_7
    exact kX3_see_B31 hG O  h
  · have h := h.2 c_7
    refine fr_aload_n (pc := 10) O 0 dX3_see_10 rfl rfl ?_
    refine fr_get (pc := 11) (k := 0) (v := .ref (gad G 1)) O cl_X3 m_190 (sC_0 hG) (by decide) rfl rfl dX3_see_11 ?_
    refine fr_iload_n (pc := 14) O 2 dX3_see_14 rfl rfl ?_
    refine fr_callVI (pc := 15) (st := []) O (tX0_hasWheel X.2.1 hG rg_1 h) mt_X0_hasWheel mv_X0_hasWheel m_417 cl_X0 rfl (sC_rig hG rg_1) rfl (by decide) rfl (Nat.le_of_ble_eq_true rfl) dX3_see_15 (fun r15 σ15 h => ?_)
    refine fr_if_eq (pc := 18) (tgt := 31) O dX3_see_18 (by decide) (fun c_18 => ?_) (fun c_18 => ?_)
    · have h := h.1 c_18
      exact kX3_see_B31 hG O  h
    · have h := h.2 c_18
      refine fr_iload_n (pc := 21) O 3 dX3_see_21 rfl rfl ?_
      refine fr_iconst (pc := 22) O (v := (0 : Int32)) dX3_see_22 (by decide) ?_
      refine fr_ldc (pc := 23) O m_614 dX3_see_23 ?_
      refine fr_callSI (pc := 25) (st := []) O (tX3_within X.2.1 hG  h) mt_X3_within m_238 m_237 rfl (by decide) rfl (Nat.le_of_ble_eq_true rfl) dX3_see_25 (fun r25 σ25 h => ?_)
      refine fr_if_ne (pc := 28) (tgt := 33) O dX3_see_28 (by decide) (fun c_28 => ?_) (fun c_28 => ?_)
      · have h := h.1 c_28
        refine fr_aload_n (pc := 33) O 0 dX3_see_33 rfl rfl ?_
        refine fr_get (pc := 34) (k := 10) (v := .int (σ25 0 10)) O cl_X3 m_200 (sC_0 hG) (by decide) rfl rfl dX3_see_34 ?_
        refine fr_bipush (pc := 37) O (v := (6 : Int32)) dX3_see_37 (by decide) ?_
        refine fr_icmp_lt (pc := 39) (tgt := 45) O dX3_see_39 (by decide) (fun c_39 => ?_) (fun c_39 => ?_)
        · have h := h.1 c_39
          refine fr_aload_n (pc := 45) O 0 dX3_see_45 rfl rfl ?_
          refine fr_get (pc := 46) (k := 7) (v := .ref (gad G 44)) O cl_X3 m_197 (sC_0 hG) (by decide) rfl rfl dX3_see_46 ?_
          refine fr_aload_n (pc := 49) O 0 dX3_see_49 rfl rfl ?_
          refine fr_get (pc := 50) (k := 10) (v := .int (σ25 0 10)) O cl_X3 m_200 (sC_0 hG) (by decide) rfl rfl dX3_see_50 ?_
          refine fr_iload_n (pc := 53) O 1 dX3_see_53 rfl rfl ?_
          have hi_54 := h.1
          have h := h.2
          refine fr_iast (pc := 54) O (sC_44 hG) hi_54 dX3_see_54 (fun σ54 e_σ54 => ?_)
          have h := h σ54 e_σ54
          refine fr_aload_n (pc := 55) O 0 dX3_see_55 rfl rfl ?_
          refine fr_get (pc := 56) (k := 8) (v := .ref (gad G 45)) O cl_X3 m_198 (sC_0 hG) (by decide) rfl rfl dX3_see_56 ?_
          refine fr_aload_n (pc := 59) O 0 dX3_see_59 rfl rfl ?_
          refine fr_get (pc := 60) (k := 10) (v := .int (σ54 0 10)) O cl_X3 m_200 (sC_0 hG) (by decide) rfl rfl dX3_see_60 ?_
          refine fr_iload_n (pc := 63) O 2 dX3_see_63 rfl rfl ?_
          have hi_64 := h.1
          have h := h.2
          refine fr_iast (pc := 64) O (sC_45 hG) hi_64 dX3_see_64 (fun σ64 e_σ64 => ?_)
          have h := h σ64 e_σ64
          refine fr_aload_n (pc := 65) O 0 dX3_see_65 rfl rfl ?_
          refine fr_get (pc := 66) (k := 9) (v := .ref (gad G 46)) O cl_X3 m_199 (sC_0 hG) (by decide) rfl rfl dX3_see_66 ?_
          refine fr_aload_n (pc := 69) O 0 dX3_see_69 rfl rfl ?_
          refine fr_get (pc := 70) (k := 10) (v := .int (σ64 0 10)) O cl_X3 m_200 (sC_0 hG) (by decide) rfl rfl dX3_see_70 ?_
          refine fr_iload_n (pc := 73) O 3 dX3_see_73 rfl rfl ?_
          have hi_74 := h.1
          have h := h.2
          refine fr_iast (pc := 74) O (sC_46 hG) hi_74 dX3_see_74 (fun σ74 e_σ74 => ?_)
          have h := h σ74 e_σ74
          refine fr_aload_n (pc := 75) O 0 dX3_see_75 rfl rfl ?_
          refine fr_dup (pc := 76) O dX3_see_76 rfl ?_
          refine fr_get (pc := 77) (k := 10) (v := .int (σ74 0 10)) O cl_X3 m_200 (sC_0 hG) (by decide) rfl rfl dX3_see_77 ?_
          refine fr_iconst (pc := 80) O (v := (1 : Int32)) dX3_see_80 (by decide) ?_
          refine fr_iadd (pc := 81) O dX3_see_81 ?_
          refine fr_put (pc := 82) (k := 10) O cl_X3 m_200 (sC_0 hG) (by decide) rfl rfl rfl rfl (fun _ => Nat.le_of_ble_eq_true rfl) (fun _ => rfl) dX3_see_82 (fun σ82 e_σ82 => ?_)
          have h := h σ82 e_σ82
          refine fr_aload_n (pc := 85) O 0 dX3_see_85 rfl rfl ?_
          refine fr_get (pc := 86) (k := 10) (v := .int (σ82 0 10)) O cl_X3 m_200 (sC_0 hG) (by decide) rfl rfl dX3_see_86 ?_
          exact fr_iret (pc := 89) O dX3_see_89 h
        · have h := h.2 c_39
          refine fr_bipush (pc := 42) O (v := (-3 : Int32)) dX3_see_42 (by decide) ?_
          exact fr_iret (pc := 44) O dX3_see_44 h
      · have h := h.2 c_28
        exact kX3_see_B31 hG O  h
theorem tX3_see (l : Launch) {G : Gw} (hG : fw_IsC G) {a1 : Int32} {a2 : Int32} {a3 : Int32}  {σ : Mem} {post : Int32 → Mem → Prop} (h : qX3_see a1 a2 a3 σ post) : fw_CI l G yX3_see cX3_see 4 .int 1 22 [.ref (gad G 0), .int a1, .int a2, .int a3] σ post := fw_ofI (sok_C hG) (by decide) (Nat.le_of_ble_eq_true rfl) (fun X O => kX3_see hG O  h)
def qX3_forget (a1 : Int32) (σ : Mem) (post : Int32 → Mem → Prop) : Prop := (qX3_within a1 (0 : Int32) (σ 0 10) σ (fun r6 σ6 => ((¬ r6 = 0 → (∀ y2_18 : Int32, y2_18 = σ6 0 10 → (∀ σ21 : Mem, σ21 = up2 σ6 0 10 a1 → post y2_18 σ21))) ∧ (r6 = 0 → post (-1 : Int32) σ6))))
set_option maxRecDepth 20000 in
theorem kX3_forget {X : Cx} {G : Gw} (hG : fw_IsC G) (O : fw_Ok X G cX3_forget 3 RX3 1 22 (some .int)) {a1 : Int32}  {σ : Mem} {post : Int32 → Mem → Prop} (h : qX3_forget a1 σ post) : fw_At X G 3 (fw_QI X G post) 0 [(0, .ref (gad G 0)), (1, .int a1)] [] σ := by
  unfold qX3_forget at h
  refine fr_iload_n (pc := 0) O 1 dX3_forget_0 rfl rfl ?_
  refine fr_iconst (pc := 1) O (v := (0 : Int32)) dX3_forget_1 (by decide) ?_
  refine fr_aload_n (pc := 2) O 0 dX3_forget_2 rfl rfl ?_
  refine fr_get (pc := 3) (k := 10) (v := .int (σ 0 10)) O cl_X3 m_200 (sC_0 hG) (by decide) rfl rfl dX3_forget_3 ?_
  refine fr_callSI (pc := 6) (st := []) O (tX3_within X.2.1 hG  h) mt_X3_within m_238 m_237 rfl (by decide) rfl (Nat.le_of_ble_eq_true rfl) dX3_forget_6 (fun r6 σ6 h => ?_)
  refine fr_if_ne (pc := 9) (tgt := 14) O dX3_forget_9 (by decide) (fun c_9 => ?_) (fun c_9 => ?_)
  · have h := h.1 c_9
    refine fr_aload_n (pc := 14) O 0 dX3_forget_14 rfl rfl ?_
    refine fr_get (pc := 15) (k := 10) (v := .int (σ6 0 10)) O cl_X3 m_200 (sC_0 hG) (by decide) rfl rfl dX3_forget_15 ?_
    refine fr_nm (fun y2_18 e_y2_18 => ?_)
    have h := h y2_18 e_y2_18
    refine fr_istore_n (pc := 18) O [1, 2, 0] (lv' := [(0, .ref (gad G 0)), (1, .int a1), (2, .int y2_18)]) dX3_forget_18 rfl (by decide) rfl ?_
    refine fr_aload_n (pc := 19) O 0 dX3_forget_19 rfl rfl ?_
    refine fr_iload_n (pc := 20) O 1 dX3_forget_20 rfl rfl ?_
    refine fr_put (pc := 21) (k := 10) O cl_X3 m_200 (sC_0 hG) (by decide) rfl rfl rfl rfl (fun _ => Nat.le_of_ble_eq_true rfl) (fun _ => rfl) dX3_forget_21 (fun σ21 e_σ21 => ?_)
    have h := h σ21 e_σ21
    refine fr_iload_n (pc := 24) O 2 dX3_forget_24 rfl rfl ?_
    exact fr_iret (pc := 25) O dX3_forget_25 h
  · have h := h.2 c_9
    refine fr_iconst (pc := 12) O (v := (-1 : Int32)) dX3_forget_12 (by decide) ?_
    exact fr_iret (pc := 13) O dX3_forget_13 h
theorem tX3_forget (l : Launch) {G : Gw} (hG : fw_IsC G) {a1 : Int32}  {σ : Mem} {post : Int32 → Mem → Prop} (h : qX3_forget a1 σ post) : fw_CI l G yX3_forget cX3_forget 3 .int 1 22 [.ref (gad G 0), .int a1] σ post := fw_ofI (sok_C hG) (by decide) (Nat.le_of_ble_eq_true rfl) (fun X O => kX3_forget hG O  h)
def qX3_trialIsAsSeen_B58 (a1 : Int32) (post : Int32 → Mem → Prop) (k2 : Int32 → Mem → Prop) (x2 : Int32) (σ : Mem) : Prop := (∀ y2_58 : Int32, y2_58 = x2 + (1 : Int32) → k2 y2_58 σ)
set_option maxRecDepth 20000 in
theorem kX3_trialIsAsSeen_B58 {X : Cx} {G : Gw} (hG : fw_IsC G) (O : fw_Ok X G cX3_trialIsAsSeen 4 RX3 1 21 (some .boolean)) {a1 : Int32} {post : Int32 → Mem → Prop} {k2 : Int32 → Mem → Prop}  (hk2 : ∀ (x2 : Int32) (σ : Mem), k2 x2 σ → fw_At X G 4 (fw_QI X G post) 2 [(0, .ref (gad G 0)), (1, .int a1), (2, .int x2)] [] σ) {x2 : Int32} {σ : Mem} (h : qX3_trialIsAsSeen_B58 a1 post k2 x2 σ) : fw_At X G 4 (fw_QI X G post) 58 [(0, .ref (gad G 0)), (1, .int a1), (2, .int x2)] [] σ := by
  unfold qX3_trialIsAsSeen_B58 at h
  refine fr_iinc (pc := 58) O 2 [1, 2, 0] (w := (1 : Int32)) (lvF := fun y2_58 => [(0, .ref (gad G 0)), (1, .int a1), (2, .int y2_58)]) dX3_trialIsAsSeen_58 rfl (by decide) (by decide) (fun _ => rfl) (fun y2_58 e_y2_58 => ?_)
  have h := h y2_58 e_y2_58
  refine fr_goto (pc := 61) (tgt := 2) O dX3_trialIsAsSeen_61 (by decide) ?_
  exact hk2 _ _ h
def qX3_trialIsAsSeen_B56 (a1 : Int32) (post : Int32 → Mem → Prop) (σ : Mem) : Prop := post (0 : Int32) σ
set_option maxRecDepth 20000 in
theorem kX3_trialIsAsSeen_B56 {X : Cx} {G : Gw} (hG : fw_IsC G) (O : fw_Ok X G cX3_trialIsAsSeen 4 RX3 1 21 (some .boolean)) {a1 : Int32} {post : Int32 → Mem → Prop}    {σ : Mem} (h : qX3_trialIsAsSeen_B56 a1 post σ) : fw_At X G 4 (fw_QI X G post) 56 [(0, .ref (gad G 0)), (1, .int a1)] [] σ := by
  unfold qX3_trialIsAsSeen_B56 at h
  refine fr_iconst (pc := 56) O (v := (0 : Int32)) dX3_trialIsAsSeen_56 (by decide) ?_
  exact fr_zret (pc := 57) O dX3_trialIsAsSeen_57 isB_0 h
def qX3_trialIsAsSeen_L2 (a1 : Int32) (post : Int32 → Mem → Prop) (k2 : Int32 → Mem → Prop) (x2 : Int32) (σ : Mem) : Prop := (((σ 0 10) ≤ x2 → post (1 : Int32) σ) ∧ (¬ (σ 0 10) ≤ x2 → (vp_in x2 6 ∧ (∀ y3_16 : Int32, y3_16 = σ 45 x2.toNatClampNeg → ((¬ (σ 44 x2.toNatClampNeg) = a1 → qX3_trialIsAsSeen_B58 a1 post k2 x2 σ) ∧ ((σ 44 x2.toNatClampNeg) = a1 → (qX0_hasWheel 7 y3_16 σ (fun r32 σ32 => ((r32 = 0 → qX3_trialIsAsSeen_B56 a1 post σ32) ∧ (¬ r32 = 0 → (vp_in y3_16 4 ∧ (((σ32 11 y3_16.toNatClampNeg) = (σ32 46 x2.toNatClampNeg) → qX3_trialIsAsSeen_B58 a1 post k2 x2 σ32) ∧ (¬ (σ32 11 y3_16.toNatClampNeg) = (σ32 46 x2.toNatClampNeg) → qX3_trialIsAsSeen_B56 a1 post σ32)))))))))))))
set_option maxRecDepth 20000 in
theorem kX3_trialIsAsSeen_L2 {X : Cx} {G : Gw} (hG : fw_IsC G) (O : fw_Ok X G cX3_trialIsAsSeen 4 RX3 1 21 (some .boolean)) {a1 : Int32} {post : Int32 → Mem → Prop} {k2 : Int32 → Mem → Prop}  (hk2 : ∀ (x2 : Int32) (σ : Mem), k2 x2 σ → fw_At X G 4 (fw_QI X G post) 2 [(0, .ref (gad G 0)), (1, .int a1), (2, .int x2)] [] σ) {x2 : Int32} {σ : Mem} (h : qX3_trialIsAsSeen_L2 a1 post k2 x2 σ) : fw_At X G 4 (fw_QI X G post) 2 [(0, .ref (gad G 0)), (1, .int a1), (2, .int x2)] [] σ := by
  unfold qX3_trialIsAsSeen_L2 at h
  refine fr_iload_n (pc := 2) O 2 dX3_trialIsAsSeen_2 rfl rfl ?_
  refine fr_aload_n (pc := 3) O 0 dX3_trialIsAsSeen_3 rfl rfl ?_
  refine fr_get (pc := 4) (k := 10) (v := .int (σ 0 10)) O cl_X3 m_200 (sC_0 hG) (by decide) rfl rfl dX3_trialIsAsSeen_4 ?_
  refine fr_icmp_ge (pc := 7) (tgt := 64) O dX3_trialIsAsSeen_7 (by decide) (fun c_7 => ?_) (fun c_7 => ?_)
  · have h := h.1 c_7
    refine fr_iconst (pc := 64) O (v := (1 : Int32)) dX3_trialIsAsSeen_64 (by decide) ?_
    exact fr_zret (pc := 65) O dX3_trialIsAsSeen_65 isB_1 h
  · have h := h.2 c_7
    refine fr_aload_n (pc := 10) O 0 dX3_trialIsAsSeen_10 rfl rfl ?_
    refine fr_get (pc := 11) (k := 8) (v := .ref (gad G 45)) O cl_X3 m_198 (sC_0 hG) (by decide) rfl rfl dX3_trialIsAsSeen_11 ?_
    refine fr_iload_n (pc := 14) O 2 dX3_trialIsAsSeen_14 rfl rfl ?_
    have hi_15 := h.1
    have h := h.2
    refine fr_iald (pc := 15) O (sC_45 hG) hi_15 dX3_trialIsAsSeen_15 ?_
    refine fr_nm (fun y3_16 e_y3_16 => ?_)
    have h := h y3_16 e_y3_16
    refine fr_istore_n (pc := 16) O [1, 2, 3, 0] (lv' := [(0, .ref (gad G 0)), (1, .int a1), (2, .int x2), (3, .int y3_16)]) dX3_trialIsAsSeen_16 rfl (by decide) rfl ?_
    refine fr_aload_n (pc := 17) O 0 dX3_trialIsAsSeen_17 rfl rfl ?_
    refine fr_get (pc := 18) (k := 7) (v := .ref (gad G 44)) O cl_X3 m_197 (sC_0 hG) (by decide) rfl rfl dX3_trialIsAsSeen_18 ?_
    refine fr_iload_n (pc := 21) O 2 dX3_trialIsAsSeen_21 rfl rfl ?_
    refine fr_iald (pc := 22) O (sC_44 hG) hi_15 dX3_trialIsAsSeen_22 ?_
    refine fr_iload_n (pc := 23) O 1 dX3_trialIsAsSeen_23 rfl rfl ?_
    refine fr_icmp_ne (pc := 24) (tgt := 58) O dX3_trialIsAsSeen_24 (by decide) (fun c_24 => ?_) (fun c_24 => ?_)
    · have h := h.1 c_24
      refine fw_sub (lv' := [(0, .ref (gad G 0)), (1, .int a1), (2, .int x2)]) [0, 1, 2] rfl ?_
      exact kX3_trialIsAsSeen_B58 hG O hk2 h
    · have h := h.2 c_24
      refine fr_aload_n (pc := 27) O 0 dX3_trialIsAsSeen_27 rfl rfl ?_
      refine fr_get (pc := 28) (k := 1) (v := .ref (gad G 7)) O cl_X3 m_191 (sC_0 hG) (by decide) rfl rfl dX3_trialIsAsSeen_28 ?_
      refine fr_iload_n (pc := 31) O 3 dX3_trialIsAsSeen_31 rfl rfl ?_
      refine fr_callVI (pc := 32) (st := []) O (tX0_hasWheel X.2.1 hG rg_7 h) mt_X0_hasWheel mv_X0_hasWheel m_417 cl_X0 rfl (sC_rig hG rg_7) rfl (by decide) rfl (Nat.le_of_ble_eq_true rfl) dX3_trialIsAsSeen_32 (fun r32 σ32 h => ?_)
      refine fr_if_eq (pc := 35) (tgt := 56) O dX3_trialIsAsSeen_35 (by decide) (fun c_35 => ?_) (fun c_35 => ?_)
      · have h := h.1 c_35
        refine fw_sub (lv' := [(0, .ref (gad G 0)), (1, .int a1)]) [0, 1] rfl ?_
        exact kX3_trialIsAsSeen_B56 hG O  h
      · have h := h.2 c_35
        refine fr_aload_n (pc := 38) O 0 dX3_trialIsAsSeen_38 rfl rfl ?_
        refine fr_get (pc := 39) (k := 1) (v := .ref (gad G 7)) O cl_X3 m_191 (sC_0 hG) (by decide) rfl rfl dX3_trialIsAsSeen_39 ?_
        refine fr_get (pc := 42) (k := 6) (v := .ref (gad G 11)) O cl_X0 m_89 (sC_rig hG rg_7) (by decide) rfl rfl dX3_trialIsAsSeen_42 ?_
        refine fr_iload_n (pc := 45) O 3 dX3_trialIsAsSeen_45 rfl rfl ?_
        have hi_46 := h.1
        have h := h.2
        refine fr_iald (pc := 46) O (sC_r4 hG rg_7) hi_46 dX3_trialIsAsSeen_46 ?_
        refine fr_aload_n (pc := 47) O 0 dX3_trialIsAsSeen_47 rfl rfl ?_
        refine fr_get (pc := 48) (k := 9) (v := .ref (gad G 46)) O cl_X3 m_199 (sC_0 hG) (by decide) rfl rfl dX3_trialIsAsSeen_48 ?_
        refine fr_iload_n (pc := 51) O 2 dX3_trialIsAsSeen_51 rfl rfl ?_
        refine fr_iald (pc := 52) O (sC_46 hG) hi_15 dX3_trialIsAsSeen_52 ?_
        refine fr_icmp_eq (pc := 53) (tgt := 58) O dX3_trialIsAsSeen_53 (by decide) (fun c_53 => ?_) (fun c_53 => ?_)
        · have h := h.1 c_53
          refine fw_sub (lv' := [(0, .ref (gad G 0)), (1, .int a1), (2, .int x2)]) [0, 1, 2] rfl ?_
          exact kX3_trialIsAsSeen_B58 hG O hk2 h
        · have h := h.2 c_53
          refine fw_sub (lv' := [(0, .ref (gad G 0)), (1, .int a1)]) [0, 1] rfl ?_
          exact kX3_trialIsAsSeen_B56 hG O  h
set_option maxRecDepth 20000 in
theorem kX3_trialIsAsSeen_L2w {X : Cx} {G : Gw} (hG : fw_IsC G) (O : fw_Ok X G cX3_trialIsAsSeen 4 RX3 1 21 (some .boolean)) {a1 : Int32} {post : Int32 → Mem → Prop}   {n9 : Nat} {x2 : Int32} {σ : Mem} (h : it1 (qX3_trialIsAsSeen_L2 a1 post) n9 x2 σ) : fw_At X G 4 (fw_QI X G post) 2 [(0, .ref (gad G 0)), (1, .int a1), (2, .int x2)] [] σ :=
  it1_walk (T := fun x2 σ => fw_At X G 4 (fw_QI X G post) 2 [(0, .ref (gad G 0)), (1, .int a1), (2, .int x2)] [] σ) (fun k2 hk2 x2 σ h => kX3_trialIsAsSeen_L2 hG O hk2 h) n9 x2 σ h
def qX3_trialIsAsSeen (a1 : Int32) (σ : Mem) (post : Int32 → Mem → Prop) : Prop := ∃ n9, it1 (qX3_trialIsAsSeen_L2 a1 post) n9 (0 : Int32) σ
set_option maxRecDepth 20000 in
theorem kX3_trialIsAsSeen {X : Cx} {G : Gw} (hG : fw_IsC G) (O : fw_Ok X G cX3_trialIsAsSeen 4 RX3 1 21 (some .boolean)) {a1 : Int32}  {σ : Mem} {post : Int32 → Mem → Prop} (h : qX3_trialIsAsSeen a1 σ post) : fw_At X G 4 (fw_QI X G post) 0 [(0, .ref (gad G 0)), (1, .int a1)] [] σ := by
  unfold qX3_trialIsAsSeen at h
  refine fr_iconst (pc := 0) O (v := (0 : Int32)) dX3_trialIsAsSeen_0 (by decide) ?_
  refine fr_istore_n (pc := 1) O [1, 2, 0] (lv' := [(0, .ref (gad G 0)), (1, .int a1), (2, .int (0 : Int32))]) dX3_trialIsAsSeen_1 rfl (by decide) rfl ?_
  obtain ⟨n9, h⟩ := h
  exact kX3_trialIsAsSeen_L2w hG O  h
theorem tX3_trialIsAsSeen (l : Launch) {G : Gw} (hG : fw_IsC G) {a1 : Int32}  {σ : Mem} {post : Int32 → Mem → Prop} (h : qX3_trialIsAsSeen a1 σ post) : fw_CI l G yX3_trialIsAsSeen cX3_trialIsAsSeen 4 .boolean 1 21 [.ref (gad G 0), .int a1] σ post := fw_ofI (sok_C hG) (by decide) (Nat.le_of_ble_eq_true rfl) (fun X O => kX3_trialIsAsSeen hG O  h)
def qX3_trialGoesAsSeen_L31 (post : Int32 → Mem → Prop) (k31 : Int32 → Int32 → Mem → Prop) (x1 : Int32) (x2 : Int32) (σ : Mem) : Prop := ((x1 < x2 → post (1 : Int32) σ) ∧ (¬ x1 < x2 → (qX3_trialIsAsSeen x2 σ (fun r38 σ38 => ((¬ r38 = 0 → (qX0_dueAct 7 σ38 (fun r54 σ54 => (qX0_passTick 7 r54 σ54 (fun σ57 => (∀ y2_60 : Int32, y2_60 = x2 + (1 : Int32) → k31 x1 y2_60 σ57)))))) ∧ (r38 = 0 → post (0 : Int32) σ38))))))
set_option maxRecDepth 20000 in
theorem kX3_trialGoesAsSeen_L31 {X : Cx} {G : Gw} (hG : fw_IsC G) (O : fw_Ok X G cX3_trialGoesAsSeen 3 RX3 5 110 (some .boolean))  {post : Int32 → Mem → Prop} {k31 : Int32 → Int32 → Mem → Prop}  (hk31 : ∀ (x1 : Int32) (x2 : Int32) (σ : Mem), k31 x1 x2 σ → fw_At X G 3 (fw_QI X G post) 31 [(0, .ref (gad G 0)), (1, .int x1), (2, .int x2)] [] σ) {x1 : Int32} {x2 : Int32} {σ : Mem} (h : qX3_trialGoesAsSeen_L31 post k31 x1 x2 σ) : fw_At X G 3 (fw_QI X G post) 31 [(0, .ref (gad G 0)), (1, .int x1), (2, .int x2)] [] σ := by
  unfold qX3_trialGoesAsSeen_L31 at h
  refine fr_iload_n (pc := 31) O 2 dX3_trialGoesAsSeen_31 rfl rfl ?_
  refine fr_iload_n (pc := 32) O 1 dX3_trialGoesAsSeen_32 rfl rfl ?_
  refine fr_icmp_gt (pc := 33) (tgt := 66) O dX3_trialGoesAsSeen_33 (by decide) (fun c_33 => ?_) (fun c_33 => ?_)
  · have h := h.1 c_33
    refine fr_iconst (pc := 66) O (v := (1 : Int32)) dX3_trialGoesAsSeen_66 (by decide) ?_
    exact fr_zret (pc := 67) O dX3_trialGoesAsSeen_67 isB_1 h
  · have h := h.2 c_33
    refine fr_aload_n (pc := 36) O 0 dX3_trialGoesAsSeen_36 rfl rfl ?_
    refine fr_iload_n (pc := 37) O 2 dX3_trialGoesAsSeen_37 rfl rfl ?_
    refine fr_callVI (pc := 38) (st := []) O (tX3_trialIsAsSeen X.2.1 hG  h) mt_X3_trialIsAsSeen mv_X3_trialIsAsSeen m_627 cl_X3 rfl (sC_0 hG) rfl (by decide) rfl (Nat.le_of_ble_eq_true rfl) dX3_trialGoesAsSeen_38 (fun r38 σ38 h => ?_)
    refine fr_if_ne (pc := 41) (tgt := 46) O dX3_trialGoesAsSeen_41 (by decide) (fun c_41 => ?_) (fun c_41 => ?_)
    · have h := h.1 c_41
      refine fr_aload_n (pc := 46) O 0 dX3_trialGoesAsSeen_46 rfl rfl ?_
      refine fr_get (pc := 47) (k := 1) (v := .ref (gad G 7)) O cl_X3 m_191 (sC_0 hG) (by decide) rfl rfl dX3_trialGoesAsSeen_47 ?_
      refine fr_aload_n (pc := 50) O 0 dX3_trialGoesAsSeen_50 rfl rfl ?_
      refine fr_get (pc := 51) (k := 1) (v := .ref (gad G 7)) O cl_X3 m_191 (sC_0 hG) (by decide) rfl rfl dX3_trialGoesAsSeen_51 ?_
      refine fr_callVI (pc := 54) (st := [.ref (gad G 7)]) O (tX0_dueAct X.2.1 hG rg_7 h) mt_X0_dueAct mv_X0_dueAct m_405 cl_X0 rfl (sC_rig hG rg_7) rfl (by decide) rfl (Nat.le_of_ble_eq_true rfl) dX3_trialGoesAsSeen_54 (fun r54 σ54 h => ?_)
      refine fr_callVV (pc := 57) (st := []) O (tX0_passTick X.2.1 hG rg_7 h) mt_X0_passTick mv_X0_passTick m_518 cl_X0 rfl (sC_rig hG rg_7) rfl (by decide) rfl (Nat.le_of_ble_eq_true rfl) dX3_trialGoesAsSeen_57 (fun σ57 h => ?_)
      refine fr_iinc (pc := 60) O 2 [1, 2, 0] (w := (1 : Int32)) (lvF := fun y2_60 => [(0, .ref (gad G 0)), (1, .int x1), (2, .int y2_60)]) dX3_trialGoesAsSeen_60 rfl (by decide) (by decide) (fun _ => rfl) (fun y2_60 e_y2_60 => ?_)
      have h := h y2_60 e_y2_60
      refine fr_goto (pc := 63) (tgt := 31) O dX3_trialGoesAsSeen_63 (by decide) ?_
      exact hk31 _ _ _ h
    · have h := h.2 c_41
      refine fr_iconst (pc := 44) O (v := (0 : Int32)) dX3_trialGoesAsSeen_44 (by decide) ?_
      exact fr_zret (pc := 45) O dX3_trialGoesAsSeen_45 isB_0 h
set_option maxRecDepth 20000 in
theorem kX3_trialGoesAsSeen_L31w {X : Cx} {G : Gw} (hG : fw_IsC G) (O : fw_Ok X G cX3_trialGoesAsSeen 3 RX3 5 110 (some .boolean))  {post : Int32 → Mem → Prop}   {n9 : Nat} {x1 : Int32} {x2 : Int32} {σ : Mem} (h : it2 (qX3_trialGoesAsSeen_L31 post) n9 x1 x2 σ) : fw_At X G 3 (fw_QI X G post) 31 [(0, .ref (gad G 0)), (1, .int x1), (2, .int x2)] [] σ :=
  it2_walk (T := fun x1 x2 σ => fw_At X G 3 (fw_QI X G post) 31 [(0, .ref (gad G 0)), (1, .int x1), (2, .int x2)] [] σ) (fun k31 hk31 x1 x2 σ h => kX3_trialGoesAsSeen_L31 hG O hk31 h) n9 x1 x2 σ h
def qX3_trialGoesAsSeen_L4 (post : Int32 → Mem → Prop) (k4 : Int32 → Int32 → Mem → Prop) (x1 : Int32) (x2 : Int32) (σ : Mem) : Prop := (((σ 0 10) ≤ x2 → ∃ n9, it2 (qX3_trialGoesAsSeen_L31 post) n9 x1 (0 : Int32) σ) ∧ (¬ (σ 0 10) ≤ x2 → (vp_in x2 6 ∧ (∀ y1_22 : Int32, y1_22 = (if x1 < (σ 44 x2.toNatClampNeg) then (σ 44 x2.toNatClampNeg) else x1) → (∀ y2_23 : Int32, y2_23 = x2 + (1 : Int32) → k4 y1_22 y2_23 σ)))))
set_option maxRecDepth 20000 in
theorem kX3_trialGoesAsSeen_L4 {X : Cx} {G : Gw} (hG : fw_IsC G) (O : fw_Ok X G cX3_trialGoesAsSeen 3 RX3 5 110 (some .boolean))  {post : Int32 → Mem → Prop} {k4 : Int32 → Int32 → Mem → Prop}  (hk4 : ∀ (x1 : Int32) (x2 : Int32) (σ : Mem), k4 x1 x2 σ → fw_At X G 3 (fw_QI X G post) 4 [(0, .ref (gad G 0)), (1, .int x1), (2, .int x2)] [] σ) {x1 : Int32} {x2 : Int32} {σ : Mem} (h : qX3_trialGoesAsSeen_L4 post k4 x1 x2 σ) : fw_At X G 3 (fw_QI X G post) 4 [(0, .ref (gad G 0)), (1, .int x1), (2, .int x2)] [] σ := by
  unfold qX3_trialGoesAsSeen_L4 at h
  refine fr_iload_n (pc := 4) O 2 dX3_trialGoesAsSeen_4 rfl rfl ?_
  refine fr_aload_n (pc := 5) O 0 dX3_trialGoesAsSeen_5 rfl rfl ?_
  refine fr_get (pc := 6) (k := 10) (v := .int (σ 0 10)) O cl_X3 m_200 (sC_0 hG) (by decide) rfl rfl dX3_trialGoesAsSeen_6 ?_
  refine fr_icmp_ge (pc := 9) (tgt := 29) O dX3_trialGoesAsSeen_9 (by decide) (fun c_9 => ?_) (fun c_9 => ?_)
  · have h := h.1 c_9
    refine fr_iconst (pc := 29) O (v := (0 : Int32)) dX3_trialGoesAsSeen_29 (by decide) ?_
    refine fr_istore_n (pc := 30) O [1, 2, 0] (lv' := [(0, .ref (gad G 0)), (1, .int x1), (2, .int (0 : Int32))]) dX3_trialGoesAsSeen_30 rfl (by decide) rfl ?_
    obtain ⟨n9, h⟩ := h
    exact kX3_trialGoesAsSeen_L31w hG O  h
  · have h := h.2 c_9
    refine fr_iload_n (pc := 12) O 1 dX3_trialGoesAsSeen_12 rfl rfl ?_
    refine fr_aload_n (pc := 13) O 0 dX3_trialGoesAsSeen_13 rfl rfl ?_
    refine fr_get (pc := 14) (k := 7) (v := .ref (gad G 44)) O cl_X3 m_197 (sC_0 hG) (by decide) rfl rfl dX3_trialGoesAsSeen_14 ?_
    refine fr_iload_n (pc := 17) O 2 dX3_trialGoesAsSeen_17 rfl rfl ?_
    have hi_18 := h.1
    have h := h.2
    refine fr_iald (pc := 18) O (sC_44 hG) hi_18 dX3_trialGoesAsSeen_18 ?_
    refine fr_mmax (pc := 19) O ml_519 ml_427 m_58 ml_428 ⟨by decide, Nat.le_of_ble_eq_true rfl⟩ dX3_trialGoesAsSeen_19 ?_
    refine fr_nm (fun y1_22 e_y1_22 => ?_)
    have h := h y1_22 e_y1_22
    refine fr_istore_n (pc := 22) O [1, 0, 2] (lv' := [(0, .ref (gad G 0)), (1, .int y1_22), (2, .int x2)]) dX3_trialGoesAsSeen_22 rfl (by decide) rfl ?_
    refine fr_iinc (pc := 23) O 2 [1, 2, 0] (w := (1 : Int32)) (lvF := fun y2_23 => [(0, .ref (gad G 0)), (1, .int y1_22), (2, .int y2_23)]) dX3_trialGoesAsSeen_23 rfl (by decide) (by decide) (fun _ => rfl) (fun y2_23 e_y2_23 => ?_)
    have h := h y2_23 e_y2_23
    refine fr_goto (pc := 26) (tgt := 4) O dX3_trialGoesAsSeen_26 (by decide) ?_
    exact hk4 _ _ _ h
set_option maxRecDepth 20000 in
theorem kX3_trialGoesAsSeen_L4w {X : Cx} {G : Gw} (hG : fw_IsC G) (O : fw_Ok X G cX3_trialGoesAsSeen 3 RX3 5 110 (some .boolean))  {post : Int32 → Mem → Prop}   {n9 : Nat} {x1 : Int32} {x2 : Int32} {σ : Mem} (h : it2 (qX3_trialGoesAsSeen_L4 post) n9 x1 x2 σ) : fw_At X G 3 (fw_QI X G post) 4 [(0, .ref (gad G 0)), (1, .int x1), (2, .int x2)] [] σ :=
  it2_walk (T := fun x1 x2 σ => fw_At X G 3 (fw_QI X G post) 4 [(0, .ref (gad G 0)), (1, .int x1), (2, .int x2)] [] σ) (fun k4 hk4 x1 x2 σ h => kX3_trialGoesAsSeen_L4 hG O hk4 h) n9 x1 x2 σ h
def qX3_trialGoesAsSeen  (σ : Mem) (post : Int32 → Mem → Prop) : Prop := ∃ n9, it2 (qX3_trialGoesAsSeen_L4 post) n9 (0 : Int32) (0 : Int32) σ
set_option maxRecDepth 20000 in
theorem kX3_trialGoesAsSeen {X : Cx} {G : Gw} (hG : fw_IsC G) (O : fw_Ok X G cX3_trialGoesAsSeen 3 RX3 5 110 (some .boolean))   {σ : Mem} {post : Int32 → Mem → Prop} (h : qX3_trialGoesAsSeen  σ post) : fw_At X G 3 (fw_QI X G post) 0 [(0, .ref (gad G 0))] [] σ := by
  unfold qX3_trialGoesAsSeen at h
  refine fr_iconst (pc := 0) O (v := (0 : Int32)) dX3_trialGoesAsSeen_0 (by decide) ?_
  refine fr_istore_n (pc := 1) O [1, 0] (lv' := [(0, .ref (gad G 0)), (1, .int (0 : Int32))]) dX3_trialGoesAsSeen_1 rfl (by decide) rfl ?_
  refine fr_iconst (pc := 2) O (v := (0 : Int32)) dX3_trialGoesAsSeen_2 (by decide) ?_
  refine fr_istore_n (pc := 3) O [1, 2, 0] (lv' := [(0, .ref (gad G 0)), (1, .int (0 : Int32)), (2, .int (0 : Int32))]) dX3_trialGoesAsSeen_3 rfl (by decide) rfl ?_
  obtain ⟨n9, h⟩ := h
  exact kX3_trialGoesAsSeen_L4w hG O  h
theorem tX3_trialGoesAsSeen (l : Launch) {G : Gw} (hG : fw_IsC G)   {σ : Mem} {post : Int32 → Mem → Prop} (h : qX3_trialGoesAsSeen  σ post) : fw_CI l G yX3_trialGoesAsSeen cX3_trialGoesAsSeen 3 .boolean 5 110 [.ref (gad G 0)] σ post := fw_ofI (sok_C hG) (by decide) (Nat.le_of_ble_eq_true rfl) (fun X O => kX3_trialGoesAsSeen hG O  h)
def qX3_kinds_B56 (a1 : Int32) (post : Int32 → Mem → Prop) (k17 : Int32 → Int32 → Mem → Prop) (x2 : Int32) (x3 : Int32) (σ : Mem) : Prop := (∀ y3_56 : Int32, y3_56 = x3 + (1 : Int32) → k17 x2 y3_56 σ)
set_option maxRecDepth 20000 in
theorem kX3_kinds_B56 {X : Cx} {G : Gw} (hG : fw_IsC G) (O : fw_Ok X G cX3_kinds 4 RX3 6 132 (some .int)) {a1 : Int32} {post : Int32 → Mem → Prop} {k17 : Int32 → Int32 → Mem → Prop}  (hk17 : ∀ (x2 : Int32) (x3 : Int32) (σ : Mem), k17 x2 x3 σ → fw_At X G 4 (fw_QI X G post) 17 [(0, .ref (gad G 0)), (1, .int a1), (2, .int x2), (3, .int x3)] [] σ) {x2 : Int32} {x3 : Int32} {σ : Mem} (h : qX3_kinds_B56 a1 post k17 x2 x3 σ) : fw_At X G 4 (fw_QI X G post) 56 [(0, .ref (gad G 0)), (1, .int a1), (2, .int x2), (3, .int x3)] [] σ := by
  unfold qX3_kinds_B56 at h
  refine fr_iinc (pc := 56) O 3 [1, 2, 3, 0] (w := (1 : Int32)) (lvF := fun y3_56 => [(0, .ref (gad G 0)), (1, .int a1), (2, .int x2), (3, .int y3_56)]) dX3_kinds_56 rfl (by decide) (by decide) (fun _ => rfl) (fun y3_56 e_y3_56 => ?_)
  have h := h y3_56 e_y3_56
  refine fr_goto (pc := 59) (tgt := 17) O dX3_kinds_59 (by decide) ?_
  exact hk17 _ _ _ h
def qX3_kinds_L17 (a1 : Int32) (post : Int32 → Mem → Prop) (k17 : Int32 → Int32 → Mem → Prop) (x2 : Int32) (x3 : Int32) (σ : Mem) : Prop := (((3 : Int32) < x3 → post x2 σ) ∧ (¬ (3 : Int32) < x3 → (qX0_startAs 7 1 σ (fun σ30 => (vp_in a1 4 ∧ (∀ σ42 : Mem, σ42 = up2 σ30 8 a1.toNatClampNeg x3 → (qX3_trialGoesAsSeen σ42 (fun r44 σ44 => ((r44 = 0 → qX3_kinds_B56 a1 post k17 x2 x3 σ44) ∧ (¬ r44 = 0 → (∀ y2_55 : Int32, y2_55 = x2 ||| ((1 : Int32) <<< (x3 &&& 31)) → qX3_kinds_B56 a1 post k17 y2_55 x3 σ44)))))))))))
set_option maxRecDepth 20000 in
theorem kX3_kinds_L17 {X : Cx} {G : Gw} (hG : fw_IsC G) (O : fw_Ok X G cX3_kinds 4 RX3 6 132 (some .int)) {a1 : Int32} {post : Int32 → Mem → Prop} {k17 : Int32 → Int32 → Mem → Prop}  (hk17 : ∀ (x2 : Int32) (x3 : Int32) (σ : Mem), k17 x2 x3 σ → fw_At X G 4 (fw_QI X G post) 17 [(0, .ref (gad G 0)), (1, .int a1), (2, .int x2), (3, .int x3)] [] σ) {x2 : Int32} {x3 : Int32} {σ : Mem} (h : qX3_kinds_L17 a1 post k17 x2 x3 σ) : fw_At X G 4 (fw_QI X G post) 17 [(0, .ref (gad G 0)), (1, .int a1), (2, .int x2), (3, .int x3)] [] σ := by
  unfold qX3_kinds_L17 at h
  refine fr_iload_n (pc := 17) O 3 dX3_kinds_17 rfl rfl ?_
  refine fr_iconst (pc := 18) O (v := (3 : Int32)) dX3_kinds_18 (by decide) ?_
  refine fr_icmp_gt (pc := 19) (tgt := 62) O dX3_kinds_19 (by decide) (fun c_19 => ?_) (fun c_19 => ?_)
  · have h := h.1 c_19
    refine fr_iload_n (pc := 62) O 2 dX3_kinds_62 rfl rfl ?_
    exact fr_iret (pc := 63) O dX3_kinds_63 h
  · have h := h.2 c_19
    refine fr_aload_n (pc := 22) O 0 dX3_kinds_22 rfl rfl ?_
    refine fr_get (pc := 23) (k := 1) (v := .ref (gad G 7)) O cl_X3 m_191 (sC_0 hG) (by decide) rfl rfl dX3_kinds_23 ?_
    refine fr_aload_n (pc := 26) O 0 dX3_kinds_26 rfl rfl ?_
    refine fr_get (pc := 27) (k := 0) (v := .ref (gad G 1)) O cl_X3 m_190 (sC_0 hG) (by decide) rfl rfl dX3_kinds_27 ?_
    refine fr_callVV (pc := 30) (st := []) O (tX0_startAs X.2.1 hG rg_7 rg_1 h) mt_X0_startAs mv_X0_startAs m_513 cl_X0 rfl (sC_rig hG rg_7) rfl (by decide) rfl (Nat.le_of_ble_eq_true rfl) dX3_kinds_30 (fun σ30 h => ?_)
    refine fr_aload_n (pc := 33) O 0 dX3_kinds_33 rfl rfl ?_
    refine fr_get (pc := 34) (k := 1) (v := .ref (gad G 7)) O cl_X3 m_191 (sC_0 hG) (by decide) rfl rfl dX3_kinds_34 ?_
    refine fr_get (pc := 37) (k := 3) (v := .ref (gad G 8)) O cl_X0 m_83 (sC_rig hG rg_7) (by decide) rfl rfl dX3_kinds_37 ?_
    refine fr_iload_n (pc := 40) O 1 dX3_kinds_40 rfl rfl ?_
    refine fr_iload_n (pc := 41) O 3 dX3_kinds_41 rfl rfl ?_
    have hi_42 := h.1
    have h := h.2
    refine fr_iast (pc := 42) O (sC_r1 hG rg_7) hi_42 dX3_kinds_42 (fun σ42 e_σ42 => ?_)
    have h := h σ42 e_σ42
    refine fr_aload_n (pc := 43) O 0 dX3_kinds_43 rfl rfl ?_
    refine fr_callVI (pc := 44) (st := []) O (tX3_trialGoesAsSeen X.2.1 hG  h) mt_X3_trialGoesAsSeen mv_X3_trialGoesAsSeen m_623 cl_X3 rfl (sC_0 hG) rfl (by decide) rfl (Nat.le_of_ble_eq_true rfl) dX3_kinds_44 (fun r44 σ44 h => ?_)
    refine fr_if_eq (pc := 47) (tgt := 56) O dX3_kinds_47 (by decide) (fun c_47 => ?_) (fun c_47 => ?_)
    · have h := h.1 c_47
      exact kX3_kinds_B56 hG O hk17 h
    · have h := h.2 c_47
      refine fr_iload_n (pc := 50) O 2 dX3_kinds_50 rfl rfl ?_
      refine fr_iconst (pc := 51) O (v := (1 : Int32)) dX3_kinds_51 (by decide) ?_
      refine fr_iload_n (pc := 52) O 3 dX3_kinds_52 rfl rfl ?_
      refine fr_ishl (pc := 53) O dX3_kinds_53 ?_
      refine fr_ior (pc := 54) O dX3_kinds_54 ?_
      refine fr_nm (fun y2_55 e_y2_55 => ?_)
      have h := h y2_55 e_y2_55
      refine fr_istore_n (pc := 55) O [1, 2, 0, 3] (lv' := [(0, .ref (gad G 0)), (1, .int a1), (2, .int y2_55), (3, .int x3)]) dX3_kinds_55 rfl (by decide) rfl ?_
      exact kX3_kinds_B56 hG O hk17 h
set_option maxRecDepth 20000 in
theorem kX3_kinds_L17w {X : Cx} {G : Gw} (hG : fw_IsC G) (O : fw_Ok X G cX3_kinds 4 RX3 6 132 (some .int)) {a1 : Int32} {post : Int32 → Mem → Prop}   {n9 : Nat} {x2 : Int32} {x3 : Int32} {σ : Mem} (h : it2 (qX3_kinds_L17 a1 post) n9 x2 x3 σ) : fw_At X G 4 (fw_QI X G post) 17 [(0, .ref (gad G 0)), (1, .int a1), (2, .int x2), (3, .int x3)] [] σ :=
  it2_walk (T := fun x2 x3 σ => fw_At X G 4 (fw_QI X G post) 17 [(0, .ref (gad G 0)), (1, .int a1), (2, .int x2), (3, .int x3)] [] σ) (fun k17 hk17 x2 x3 σ h => kX3_kinds_L17 hG O hk17 h) n9 x2 x3 σ h
def qX3_kinds (a1 : Int32) (σ : Mem) (post : Int32 → Mem → Prop) : Prop := (qX0_hasWheel 1 a1 σ (fun r5 σ5 => ((¬ r5 = 0 → ∃ n9, it2 (qX3_kinds_L17 a1 post) n9 (0 : Int32) (0 : Int32) σ5) ∧ (r5 = 0 → post (-1 : Int32) σ5))))
set_option maxRecDepth 20000 in
theorem kX3_kinds {X : Cx} {G : Gw} (hG : fw_IsC G) (O : fw_Ok X G cX3_kinds 4 RX3 6 132 (some .int)) {a1 : Int32}  {σ : Mem} {post : Int32 → Mem → Prop} (h : qX3_kinds a1 σ post) : fw_At X G 4 (fw_QI X G post) 0 [(0, .ref (gad G 0)), (1, .int a1)] [] σ := by
  unfold qX3_kinds at h
  refine fr_aload_n (pc := 0) O 0 dX3_kinds_0 rfl rfl ?_
  refine fr_get (pc := 1) (k := 0) (v := .ref (gad G 1)) O cl_X3 m_190 (sC_0 hG) (by decide) rfl rfl dX3_kinds_1 ?_
  refine fr_iload_n (pc := 4) O 1 dX3_kinds_4 rfl rfl ?_
  refine fr_callVI (pc := 5) (st := []) O (tX0_hasWheel X.2.1 hG rg_1 h) mt_X0_hasWheel mv_X0_hasWheel m_417 cl_X0 rfl (sC_rig hG rg_1) rfl (by decide) rfl (Nat.le_of_ble_eq_true rfl) dX3_kinds_5 (fun r5 σ5 h => ?_)
  refine fr_if_ne (pc := 8) (tgt := 13) O dX3_kinds_8 (by decide) (fun c_8 => ?_) (fun c_8 => ?_)
  · have h := h.1 c_8
    refine fr_iconst (pc := 13) O (v := (0 : Int32)) dX3_kinds_13 (by decide) ?_
    refine fr_istore_n (pc := 14) O [1, 2, 0] (lv' := [(0, .ref (gad G 0)), (1, .int a1), (2, .int (0 : Int32))]) dX3_kinds_14 rfl (by decide) rfl ?_
    refine fr_iconst (pc := 15) O (v := (0 : Int32)) dX3_kinds_15 (by decide) ?_
    refine fr_istore_n (pc := 16) O [1, 2, 3, 0] (lv' := [(0, .ref (gad G 0)), (1, .int a1), (2, .int (0 : Int32)), (3, .int (0 : Int32))]) dX3_kinds_16 rfl (by decide) rfl ?_
    obtain ⟨n9, h⟩ := h
    exact kX3_kinds_L17w hG O  h
  · have h := h.2 c_8
    refine fr_iconst (pc := 11) O (v := (-1 : Int32)) dX3_kinds_11 (by decide) ?_
    exact fr_iret (pc := 12) O dX3_kinds_12 h
theorem tX3_kinds (l : Launch) {G : Gw} (hG : fw_IsC G) {a1 : Int32}  {σ : Mem} {post : Int32 → Mem → Prop} (h : qX3_kinds a1 σ post) : fw_CI l G yX3_kinds cX3_kinds 4 .int 6 132 [.ref (gad G 0), .int a1] σ post := fw_ofI (sok_C hG) (by decide) (Nat.le_of_ble_eq_true rfl) (fun X O => kX3_kinds hG O  h)
def qX3_fittingLosses_B44 (a1 : Int32) (post : Int32 → Mem → Prop) (k4 : Int32 → Int32 → Mem → Prop) (x2 : Int32) (x3 : Int32) (σ : Mem) : Prop := (∀ y3_44 : Int32, y3_44 = x3 + (1 : Int32) → k4 x2 y3_44 σ)
set_option maxRecDepth 20000 in
theorem kX3_fittingLosses_B44 {X : Cx} {G : Gw} (hG : fw_IsC G) (O : fw_Ok X G cX3_fittingLosses 4 RX3 6 132 (some .int)) {a1 : Int32} {post : Int32 → Mem → Prop} {k4 : Int32 → Int32 → Mem → Prop}  (hk4 : ∀ (x2 : Int32) (x3 : Int32) (σ : Mem), k4 x2 x3 σ → fw_At X G 4 (fw_QI X G post) 4 [(0, .ref (gad G 0)), (1, .int a1), (2, .int x2), (3, .int x3)] [] σ) {x2 : Int32} {x3 : Int32} {σ : Mem} (h : qX3_fittingLosses_B44 a1 post k4 x2 x3 σ) : fw_At X G 4 (fw_QI X G post) 44 [(0, .ref (gad G 0)), (1, .int a1), (2, .int x2), (3, .int x3)] [] σ := by
  unfold qX3_fittingLosses_B44 at h
  refine fr_iinc (pc := 44) O 3 [1, 2, 3, 0] (w := (1 : Int32)) (lvF := fun y3_44 => [(0, .ref (gad G 0)), (1, .int a1), (2, .int x2), (3, .int y3_44)]) dX3_fittingLosses_44 rfl (by decide) (by decide) (fun _ => rfl) (fun y3_44 e_y3_44 => ?_)
  have h := h y3_44 e_y3_44
  refine fr_goto (pc := 47) (tgt := 4) O dX3_fittingLosses_47 (by decide) ?_
  exact hk4 _ _ _ h
def qX3_fittingLosses_L4 (a1 : Int32) (post : Int32 → Mem → Prop) (k4 : Int32 → Int32 → Mem → Prop) (x2 : Int32) (x3 : Int32) (σ : Mem) : Prop := (((9 : Int32) < x3 → post x2 σ) ∧ (¬ (9 : Int32) < x3 → (qX0_startAs 7 1 σ (fun σ18 => (vp_in a1 4 ∧ (∀ σ30 : Mem, σ30 = up2 σ18 10 a1.toNatClampNeg x3 → (qX3_trialGoesAsSeen σ30 (fun r32 σ32 => ((r32 = 0 → qX3_fittingLosses_B44 a1 post k4 x2 x3 σ32) ∧ (¬ r32 = 0 → (∀ y2_43 : Int32, y2_43 = x2 ||| ((1 : Int32) <<< (x3 &&& 31)) → qX3_fittingLosses_B44 a1 post k4 y2_43 x3 σ32)))))))))))
set_option maxRecDepth 20000 in
theorem kX3_fittingLosses_L4 {X : Cx} {G : Gw} (hG : fw_IsC G) (O : fw_Ok X G cX3_fittingLosses 4 RX3 6 132 (some .int)) {a1 : Int32} {post : Int32 → Mem → Prop} {k4 : Int32 → Int32 → Mem → Prop}  (hk4 : ∀ (x2 : Int32) (x3 : Int32) (σ : Mem), k4 x2 x3 σ → fw_At X G 4 (fw_QI X G post) 4 [(0, .ref (gad G 0)), (1, .int a1), (2, .int x2), (3, .int x3)] [] σ) {x2 : Int32} {x3 : Int32} {σ : Mem} (h : qX3_fittingLosses_L4 a1 post k4 x2 x3 σ) : fw_At X G 4 (fw_QI X G post) 4 [(0, .ref (gad G 0)), (1, .int a1), (2, .int x2), (3, .int x3)] [] σ := by
  unfold qX3_fittingLosses_L4 at h
  refine fr_iload_n (pc := 4) O 3 dX3_fittingLosses_4 rfl rfl ?_
  refine fr_bipush (pc := 5) O (v := (9 : Int32)) dX3_fittingLosses_5 (by decide) ?_
  refine fr_icmp_gt (pc := 7) (tgt := 50) O dX3_fittingLosses_7 (by decide) (fun c_7 => ?_) (fun c_7 => ?_)
  · have h := h.1 c_7
    refine fr_iload_n (pc := 50) O 2 dX3_fittingLosses_50 rfl rfl ?_
    exact fr_iret (pc := 51) O dX3_fittingLosses_51 h
  · have h := h.2 c_7
    refine fr_aload_n (pc := 10) O 0 dX3_fittingLosses_10 rfl rfl ?_
    refine fr_get (pc := 11) (k := 1) (v := .ref (gad G 7)) O cl_X3 m_191 (sC_0 hG) (by decide) rfl rfl dX3_fittingLosses_11 ?_
    refine fr_aload_n (pc := 14) O 0 dX3_fittingLosses_14 rfl rfl ?_
    refine fr_get (pc := 15) (k := 0) (v := .ref (gad G 1)) O cl_X3 m_190 (sC_0 hG) (by decide) rfl rfl dX3_fittingLosses_15 ?_
    refine fr_callVV (pc := 18) (st := []) O (tX0_startAs X.2.1 hG rg_7 rg_1 h) mt_X0_startAs mv_X0_startAs m_513 cl_X0 rfl (sC_rig hG rg_7) rfl (by decide) rfl (Nat.le_of_ble_eq_true rfl) dX3_fittingLosses_18 (fun σ18 h => ?_)
    refine fr_aload_n (pc := 21) O 0 dX3_fittingLosses_21 rfl rfl ?_
    refine fr_get (pc := 22) (k := 1) (v := .ref (gad G 7)) O cl_X3 m_191 (sC_0 hG) (by decide) rfl rfl dX3_fittingLosses_22 ?_
    refine fr_get (pc := 25) (k := 5) (v := .ref (gad G 10)) O cl_X0 m_87 (sC_rig hG rg_7) (by decide) rfl rfl dX3_fittingLosses_25 ?_
    refine fr_iload_n (pc := 28) O 1 dX3_fittingLosses_28 rfl rfl ?_
    refine fr_iload_n (pc := 29) O 3 dX3_fittingLosses_29 rfl rfl ?_
    have hi_30 := h.1
    have h := h.2
    refine fr_iast (pc := 30) O (sC_r3 hG rg_7) hi_30 dX3_fittingLosses_30 (fun σ30 e_σ30 => ?_)
    have h := h σ30 e_σ30
    refine fr_aload_n (pc := 31) O 0 dX3_fittingLosses_31 rfl rfl ?_
    refine fr_callVI (pc := 32) (st := []) O (tX3_trialGoesAsSeen X.2.1 hG  h) mt_X3_trialGoesAsSeen mv_X3_trialGoesAsSeen m_623 cl_X3 rfl (sC_0 hG) rfl (by decide) rfl (Nat.le_of_ble_eq_true rfl) dX3_fittingLosses_32 (fun r32 σ32 h => ?_)
    refine fr_if_eq (pc := 35) (tgt := 44) O dX3_fittingLosses_35 (by decide) (fun c_35 => ?_) (fun c_35 => ?_)
    · have h := h.1 c_35
      exact kX3_fittingLosses_B44 hG O hk4 h
    · have h := h.2 c_35
      refine fr_iload_n (pc := 38) O 2 dX3_fittingLosses_38 rfl rfl ?_
      refine fr_iconst (pc := 39) O (v := (1 : Int32)) dX3_fittingLosses_39 (by decide) ?_
      refine fr_iload_n (pc := 40) O 3 dX3_fittingLosses_40 rfl rfl ?_
      refine fr_ishl (pc := 41) O dX3_fittingLosses_41 ?_
      refine fr_ior (pc := 42) O dX3_fittingLosses_42 ?_
      refine fr_nm (fun y2_43 e_y2_43 => ?_)
      have h := h y2_43 e_y2_43
      refine fr_istore_n (pc := 43) O [1, 2, 0, 3] (lv' := [(0, .ref (gad G 0)), (1, .int a1), (2, .int y2_43), (3, .int x3)]) dX3_fittingLosses_43 rfl (by decide) rfl ?_
      exact kX3_fittingLosses_B44 hG O hk4 h
set_option maxRecDepth 20000 in
theorem kX3_fittingLosses_L4w {X : Cx} {G : Gw} (hG : fw_IsC G) (O : fw_Ok X G cX3_fittingLosses 4 RX3 6 132 (some .int)) {a1 : Int32} {post : Int32 → Mem → Prop}   {n9 : Nat} {x2 : Int32} {x3 : Int32} {σ : Mem} (h : it2 (qX3_fittingLosses_L4 a1 post) n9 x2 x3 σ) : fw_At X G 4 (fw_QI X G post) 4 [(0, .ref (gad G 0)), (1, .int a1), (2, .int x2), (3, .int x3)] [] σ :=
  it2_walk (T := fun x2 x3 σ => fw_At X G 4 (fw_QI X G post) 4 [(0, .ref (gad G 0)), (1, .int a1), (2, .int x2), (3, .int x3)] [] σ) (fun k4 hk4 x2 x3 σ h => kX3_fittingLosses_L4 hG O hk4 h) n9 x2 x3 σ h
def qX3_fittingLosses (a1 : Int32) (σ : Mem) (post : Int32 → Mem → Prop) : Prop := ∃ n9, it2 (qX3_fittingLosses_L4 a1 post) n9 (0 : Int32) (0 : Int32) σ
set_option maxRecDepth 20000 in
theorem kX3_fittingLosses {X : Cx} {G : Gw} (hG : fw_IsC G) (O : fw_Ok X G cX3_fittingLosses 4 RX3 6 132 (some .int)) {a1 : Int32}  {σ : Mem} {post : Int32 → Mem → Prop} (h : qX3_fittingLosses a1 σ post) : fw_At X G 4 (fw_QI X G post) 0 [(0, .ref (gad G 0)), (1, .int a1)] [] σ := by
  unfold qX3_fittingLosses at h
  refine fr_iconst (pc := 0) O (v := (0 : Int32)) dX3_fittingLosses_0 (by decide) ?_
  refine fr_istore_n (pc := 1) O [1, 2, 0] (lv' := [(0, .ref (gad G 0)), (1, .int a1), (2, .int (0 : Int32))]) dX3_fittingLosses_1 rfl (by decide) rfl ?_
  refine fr_iconst (pc := 2) O (v := (0 : Int32)) dX3_fittingLosses_2 (by decide) ?_
  refine fr_istore_n (pc := 3) O [1, 2, 3, 0] (lv' := [(0, .ref (gad G 0)), (1, .int a1), (2, .int (0 : Int32)), (3, .int (0 : Int32))]) dX3_fittingLosses_3 rfl (by decide) rfl ?_
  obtain ⟨n9, h⟩ := h
  exact kX3_fittingLosses_L4w hG O  h
theorem tX3_fittingLosses (l : Launch) {G : Gw} (hG : fw_IsC G) {a1 : Int32}  {σ : Mem} {post : Int32 → Mem → Prop} (h : qX3_fittingLosses a1 σ post) : fw_CI l G yX3_fittingLosses cX3_fittingLosses 4 .int 6 132 [.ref (gad G 0), .int a1] σ post := fw_ofI (sok_C hG) (by decide) (Nat.le_of_ble_eq_true rfl) (fun X O => kX3_fittingLosses hG O  h)
def qX3_losses_B20 (a1 : Int32) (post : Int32 → Mem → Prop) (s0 : Int32) (σ : Mem) : Prop := post s0 σ
set_option maxRecDepth 20000 in
theorem kX3_losses_B20 {X : Cx} {G : Gw} (hG : fw_IsC G) (O : fw_Ok X G cX3_losses 2 RX3 7 155 (some .int)) {a1 : Int32} {post : Int32 → Mem → Prop}   {s0 : Int32} {σ : Mem} (h : qX3_losses_B20 a1 post s0 σ) : fw_At X G 2 (fw_QI X G post) 20 [(0, .ref (gad G 0)), (1, .int a1)] [.int s0] σ := by
  unfold qX3_losses_B20 at h
  exact fr_iret (pc := 20) O dX3_losses_20 h
def qX3_losses (a1 : Int32) (σ : Mem) (post : Int32 → Mem → Prop) : Prop := (qX0_hasWheel 1 a1 σ (fun r5 σ5 => ((r5 = 0 → qX3_losses_B20 a1 post (-1 : Int32) σ5) ∧ (¬ r5 = 0 → (qX3_fittingLosses a1 σ5 (fun r13 σ13 => qX3_losses_B20 a1 post r13 σ13))))))
set_option maxRecDepth 20000 in
theorem kX3_losses {X : Cx} {G : Gw} (hG : fw_IsC G) (O : fw_Ok X G cX3_losses 2 RX3 7 155 (some .int)) {a1 : Int32}  {σ : Mem} {post : Int32 → Mem → Prop} (h : qX3_losses a1 σ post) : fw_At X G 2 (fw_QI X G post) 0 [(0, .ref (gad G 0)), (1, .int a1)] [] σ := by
  unfold qX3_losses at h
  refine fr_aload_n (pc := 0) O 0 dX3_losses_0 rfl rfl ?_
  refine fr_get (pc := 1) (k := 0) (v := .ref (gad G 1)) O cl_X3 m_190 (sC_0 hG) (by decide) rfl rfl dX3_losses_1 ?_
  refine fr_iload_n (pc := 4) O 1 dX3_losses_4 rfl rfl ?_
  refine fr_callVI (pc := 5) (st := []) O (tX0_hasWheel X.2.1 hG rg_1 h) mt_X0_hasWheel mv_X0_hasWheel m_417 cl_X0 rfl (sC_rig hG rg_1) rfl (by decide) rfl (Nat.le_of_ble_eq_true rfl) dX3_losses_5 (fun r5 σ5 h => ?_)
  refine fr_if_eq (pc := 8) (tgt := 19) O dX3_losses_8 (by decide) (fun c_8 => ?_) (fun c_8 => ?_)
  · have h := h.1 c_8
    refine fr_iconst (pc := 19) O (v := (-1 : Int32)) dX3_losses_19 (by decide) ?_
    exact kX3_losses_B20 hG O  h
  · have h := h.2 c_8
    refine fr_aload_n (pc := 11) O 0 dX3_losses_11 rfl rfl ?_
    refine fr_iload_n (pc := 12) O 1 dX3_losses_12 rfl rfl ?_
    refine fr_callVI (pc := 13) (st := []) O (tX3_fittingLosses X.2.1 hG  h) mt_X3_fittingLosses mv_X3_fittingLosses m_635 cl_X3 rfl (sC_0 hG) rfl (by decide) rfl (Nat.le_of_ble_eq_true rfl) dX3_losses_13 (fun r13 σ13 h => ?_)
    refine fr_goto (pc := 16) (tgt := 20) O dX3_losses_16 (by decide) ?_
    exact kX3_losses_B20 hG O  h
theorem tX3_losses (l : Launch) {G : Gw} (hG : fw_IsC G) {a1 : Int32}  {σ : Mem} {post : Int32 → Mem → Prop} (h : qX3_losses a1 σ post) : fw_CI l G yX3_losses cX3_losses 2 .int 7 155 [.ref (gad G 0), .int a1] σ post := fw_ofI (sok_C hG) (by decide) (Nat.le_of_ble_eq_true rfl) (fun X O => kX3_losses hG O  h)
def qX3_lookAhead_B89 (a1 : Int32) (a2 : Int32) (post : Mem → Prop) (k2 : Int32 → Mem → Prop) (x3 : Int32) (σ : Mem) : Prop := (∀ y3_89 : Int32, y3_89 = x3 + (1 : Int32) → k2 y3_89 σ)
set_option maxRecDepth 20000 in
theorem kX3_lookAhead_B89 {X : Cx} {G : Gw} (hG : fw_IsC G) (O : fw_Ok X G cX3_lookAhead 5 RX3 5 110 none) {a1 : Int32} {a2 : Int32} {post : Mem → Prop} {k2 : Int32 → Mem → Prop}  (hk2 : ∀ (x3 : Int32) (σ : Mem), k2 x3 σ → fw_At X G 5 (fw_QV X G post) 2 [(0, .ref (gad G 0)), (1, .int a1), (2, .int a2), (3, .int x3)] [] σ) {x3 : Int32} {σ : Mem} (h : qX3_lookAhead_B89 a1 a2 post k2 x3 σ) : fw_At X G 5 (fw_QV X G post) 89 [(0, .ref (gad G 0)), (1, .int a1), (2, .int a2), (3, .int x3)] [] σ := by
  unfold qX3_lookAhead_B89 at h
  refine fr_iinc (pc := 89) O 3 [1, 2, 3, 0] (w := (1 : Int32)) (lvF := fun y3_89 => [(0, .ref (gad G 0)), (1, .int a1), (2, .int a2), (3, .int y3_89)]) dX3_lookAhead_89 rfl (by decide) (by decide) (fun _ => rfl) (fun y3_89 e_y3_89 => ?_)
  have h := h y3_89 e_y3_89
  refine fr_goto (pc := 92) (tgt := 2) O dX3_lookAhead_92 (by decide) ?_
  exact hk2 _ _ h
def qX3_lookAhead_L41 (a1 : Int32) (a2 : Int32) (post : Mem → Prop) (k2 : Int32 → Mem → Prop) (k41 : Int32 → Int32 → Mem → Prop) (x3 : Int32) (x4 : Int32) (σ : Mem) : Prop := (((40 : Int32) < x4 → qX3_lookAhead_B89 a1 a2 post k2 x3 σ) ∧ (¬ (40 : Int32) < x4 → (vp_in a1 4 ∧ (vp_in ((x3 * (41 : Int32)) + x4) 410 ∧ (∀ σ68 : Mem, σ68 = up2 σ 47 ((x3 * (41 : Int32)) + x4).toNatClampNeg (σ 11 a1.toNatClampNeg) → (qX0_dueAct 7 σ68 (fun r77 σ77 => (qX0_passTick 7 r77 σ77 (fun σ80 => (∀ y4_83 : Int32, y4_83 = x4 + (1 : Int32) → k41 x3 y4_83 σ80))))))))))
set_option maxRecDepth 20000 in
theorem kX3_lookAhead_L41 {X : Cx} {G : Gw} (hG : fw_IsC G) (O : fw_Ok X G cX3_lookAhead 5 RX3 5 110 none) {a1 : Int32} {a2 : Int32} {post : Mem → Prop} {k2 : Int32 → Mem → Prop} {k41 : Int32 → Int32 → Mem → Prop}  (hk2 : ∀ (x3 : Int32) (σ : Mem), k2 x3 σ → fw_At X G 5 (fw_QV X G post) 2 [(0, .ref (gad G 0)), (1, .int a1), (2, .int a2), (3, .int x3)] [] σ) (hk41 : ∀ (x3 : Int32) (x4 : Int32) (σ : Mem), k41 x3 x4 σ → fw_At X G 5 (fw_QV X G post) 41 [(0, .ref (gad G 0)), (1, .int a1), (2, .int a2), (3, .int x3), (4, .int x4)] [] σ) {x3 : Int32} {x4 : Int32} {σ : Mem} (h : qX3_lookAhead_L41 a1 a2 post k2 k41 x3 x4 σ) : fw_At X G 5 (fw_QV X G post) 41 [(0, .ref (gad G 0)), (1, .int a1), (2, .int a2), (3, .int x3), (4, .int x4)] [] σ := by
  unfold qX3_lookAhead_L41 at h
  refine fr_iload (pc := 41) O 4 dX3_lookAhead_41 rfl ?_
  refine fr_bipush (pc := 43) O (v := (40 : Int32)) dX3_lookAhead_43 (by decide) ?_
  refine fr_icmp_gt (pc := 45) (tgt := 89) O dX3_lookAhead_45 (by decide) (fun c_45 => ?_) (fun c_45 => ?_)
  · have h := h.1 c_45
    refine fw_sub (lv' := [(0, .ref (gad G 0)), (1, .int a1), (2, .int a2), (3, .int x3)]) [0, 1, 2, 3] rfl ?_
    exact kX3_lookAhead_B89 hG O hk2 h
  · have h := h.2 c_45
    refine fr_aload_n (pc := 48) O 0 dX3_lookAhead_48 rfl rfl ?_
    refine fr_get (pc := 49) (k := 13) (v := .ref (gad G 47)) O cl_X3 m_203 (sC_0 hG) (by decide) rfl rfl dX3_lookAhead_49 ?_
    refine fr_iload_n (pc := 52) O 3 dX3_lookAhead_52 rfl rfl ?_
    refine fr_bipush (pc := 53) O (v := (41 : Int32)) dX3_lookAhead_53 (by decide) ?_
    refine fr_imul (pc := 55) O dX3_lookAhead_55 ?_
    refine fr_iload (pc := 56) O 4 dX3_lookAhead_56 rfl ?_
    refine fr_iadd (pc := 58) O dX3_lookAhead_58 ?_
    refine fr_aload_n (pc := 59) O 0 dX3_lookAhead_59 rfl rfl ?_
    refine fr_get (pc := 60) (k := 1) (v := .ref (gad G 7)) O cl_X3 m_191 (sC_0 hG) (by decide) rfl rfl dX3_lookAhead_60 ?_
    refine fr_get (pc := 63) (k := 6) (v := .ref (gad G 11)) O cl_X0 m_89 (sC_rig hG rg_7) (by decide) rfl rfl dX3_lookAhead_63 ?_
    refine fr_iload_n (pc := 66) O 1 dX3_lookAhead_66 rfl rfl ?_
    have hi_67 := h.1
    have h := h.2
    refine fr_iald (pc := 67) O (sC_r4 hG rg_7) hi_67 dX3_lookAhead_67 ?_
    have hi_68 := h.1
    have h := h.2
    refine fr_iast (pc := 68) O (sC_47 hG) hi_68 dX3_lookAhead_68 (fun σ68 e_σ68 => ?_)
    have h := h σ68 e_σ68
    refine fr_aload_n (pc := 69) O 0 dX3_lookAhead_69 rfl rfl ?_
    refine fr_get (pc := 70) (k := 1) (v := .ref (gad G 7)) O cl_X3 m_191 (sC_0 hG) (by decide) rfl rfl dX3_lookAhead_70 ?_
    refine fr_aload_n (pc := 73) O 0 dX3_lookAhead_73 rfl rfl ?_
    refine fr_get (pc := 74) (k := 1) (v := .ref (gad G 7)) O cl_X3 m_191 (sC_0 hG) (by decide) rfl rfl dX3_lookAhead_74 ?_
    refine fr_callVI (pc := 77) (st := [.ref (gad G 7)]) O (tX0_dueAct X.2.1 hG rg_7 h) mt_X0_dueAct mv_X0_dueAct m_405 cl_X0 rfl (sC_rig hG rg_7) rfl (by decide) rfl (Nat.le_of_ble_eq_true rfl) dX3_lookAhead_77 (fun r77 σ77 h => ?_)
    refine fr_callVV (pc := 80) (st := []) O (tX0_passTick X.2.1 hG rg_7 h) mt_X0_passTick mv_X0_passTick m_518 cl_X0 rfl (sC_rig hG rg_7) rfl (by decide) rfl (Nat.le_of_ble_eq_true rfl) dX3_lookAhead_80 (fun σ80 h => ?_)
    refine fr_iinc (pc := 83) O 4 [1, 2, 3, 4, 0] (w := (1 : Int32)) (lvF := fun y4_83 => [(0, .ref (gad G 0)), (1, .int a1), (2, .int a2), (3, .int x3), (4, .int y4_83)]) dX3_lookAhead_83 rfl (by decide) (by decide) (fun _ => rfl) (fun y4_83 e_y4_83 => ?_)
    have h := h y4_83 e_y4_83
    refine fr_goto (pc := 86) (tgt := 41) O dX3_lookAhead_86 (by decide) ?_
    exact hk41 _ _ _ h
set_option maxRecDepth 20000 in
theorem kX3_lookAhead_L41w {X : Cx} {G : Gw} (hG : fw_IsC G) (O : fw_Ok X G cX3_lookAhead 5 RX3 5 110 none) {a1 : Int32} {a2 : Int32} {post : Mem → Prop} {k2 : Int32 → Mem → Prop}  (hk2 : ∀ (x3 : Int32) (σ : Mem), k2 x3 σ → fw_At X G 5 (fw_QV X G post) 2 [(0, .ref (gad G 0)), (1, .int a1), (2, .int a2), (3, .int x3)] [] σ) {n9 : Nat} {x3 : Int32} {x4 : Int32} {σ : Mem} (h : it2 (qX3_lookAhead_L41 a1 a2 post k2) n9 x3 x4 σ) : fw_At X G 5 (fw_QV X G post) 41 [(0, .ref (gad G 0)), (1, .int a1), (2, .int a2), (3, .int x3), (4, .int x4)] [] σ :=
  it2_walk (T := fun x3 x4 σ => fw_At X G 5 (fw_QV X G post) 41 [(0, .ref (gad G 0)), (1, .int a1), (2, .int a2), (3, .int x3), (4, .int x4)] [] σ) (fun k41 hk41 x3 x4 σ h => kX3_lookAhead_L41 hG O hk2 hk41 h) n9 x3 x4 σ h
def qX3_lookAhead_L2 (a1 : Int32) (a2 : Int32) (post : Mem → Prop) (k2 : Int32 → Mem → Prop) (x3 : Int32) (σ : Mem) : Prop := (((9 : Int32) < x3 → post σ) ∧ (¬ (9 : Int32) < x3 → ((¬ ((a2 >>> (x3 &&& 31)) &&& (1 : Int32)) = (1 : Int32) → qX3_lookAhead_B89 a1 a2 post k2 x3 σ) ∧ (((a2 >>> (x3 &&& 31)) &&& (1 : Int32)) = (1 : Int32) → (qX0_startAs 7 1 σ (fun σ25 => (vp_in a1 4 ∧ (∀ σ37 : Mem, σ37 = up2 σ25 10 a1.toNatClampNeg x3 → ∃ n9, it2 (qX3_lookAhead_L41 a1 a2 post k2) n9 x3 (0 : Int32) σ37))))))))
set_option maxRecDepth 20000 in
theorem kX3_lookAhead_L2 {X : Cx} {G : Gw} (hG : fw_IsC G) (O : fw_Ok X G cX3_lookAhead 5 RX3 5 110 none) {a1 : Int32} {a2 : Int32} {post : Mem → Prop} {k2 : Int32 → Mem → Prop}  (hk2 : ∀ (x3 : Int32) (σ : Mem), k2 x3 σ → fw_At X G 5 (fw_QV X G post) 2 [(0, .ref (gad G 0)), (1, .int a1), (2, .int a2), (3, .int x3)] [] σ) {x3 : Int32} {σ : Mem} (h : qX3_lookAhead_L2 a1 a2 post k2 x3 σ) : fw_At X G 5 (fw_QV X G post) 2 [(0, .ref (gad G 0)), (1, .int a1), (2, .int a2), (3, .int x3)] [] σ := by
  unfold qX3_lookAhead_L2 at h
  refine fr_iload_n (pc := 2) O 3 dX3_lookAhead_2 rfl rfl ?_
  refine fr_bipush (pc := 3) O (v := (9 : Int32)) dX3_lookAhead_3 (by decide) ?_
  refine fr_icmp_gt (pc := 5) (tgt := 95) O dX3_lookAhead_5 (by decide) (fun c_5 => ?_) (fun c_5 => ?_)
  · have h := h.1 c_5
    exact fr_vret (pc := 95) O dX3_lookAhead_95 h
  · have h := h.2 c_5
    refine fr_iload_n (pc := 8) O 2 dX3_lookAhead_8 rfl rfl ?_
    refine fr_iload_n (pc := 9) O 3 dX3_lookAhead_9 rfl rfl ?_
    refine fr_ishr (pc := 10) O dX3_lookAhead_10 ?_
    refine fr_iconst (pc := 11) O (v := (1 : Int32)) dX3_lookAhead_11 (by decide) ?_
    refine fr_iand (pc := 12) O dX3_lookAhead_12 ?_
    refine fr_iconst (pc := 13) O (v := (1 : Int32)) dX3_lookAhead_13 (by decide) ?_
    refine fr_icmp_ne (pc := 14) (tgt := 89) O dX3_lookAhead_14 (by decide) (fun c_14 => ?_) (fun c_14 => ?_)
    · have h := h.1 c_14
      exact kX3_lookAhead_B89 hG O hk2 h
    · have h := h.2 c_14
      refine fr_aload_n (pc := 17) O 0 dX3_lookAhead_17 rfl rfl ?_
      refine fr_get (pc := 18) (k := 1) (v := .ref (gad G 7)) O cl_X3 m_191 (sC_0 hG) (by decide) rfl rfl dX3_lookAhead_18 ?_
      refine fr_aload_n (pc := 21) O 0 dX3_lookAhead_21 rfl rfl ?_
      refine fr_get (pc := 22) (k := 0) (v := .ref (gad G 1)) O cl_X3 m_190 (sC_0 hG) (by decide) rfl rfl dX3_lookAhead_22 ?_
      refine fr_callVV (pc := 25) (st := []) O (tX0_startAs X.2.1 hG rg_7 rg_1 h) mt_X0_startAs mv_X0_startAs m_513 cl_X0 rfl (sC_rig hG rg_7) rfl (by decide) rfl (Nat.le_of_ble_eq_true rfl) dX3_lookAhead_25 (fun σ25 h => ?_)
      refine fr_aload_n (pc := 28) O 0 dX3_lookAhead_28 rfl rfl ?_
      refine fr_get (pc := 29) (k := 1) (v := .ref (gad G 7)) O cl_X3 m_191 (sC_0 hG) (by decide) rfl rfl dX3_lookAhead_29 ?_
      refine fr_get (pc := 32) (k := 5) (v := .ref (gad G 10)) O cl_X0 m_87 (sC_rig hG rg_7) (by decide) rfl rfl dX3_lookAhead_32 ?_
      refine fr_iload_n (pc := 35) O 1 dX3_lookAhead_35 rfl rfl ?_
      refine fr_iload_n (pc := 36) O 3 dX3_lookAhead_36 rfl rfl ?_
      have hi_37 := h.1
      have h := h.2
      refine fr_iast (pc := 37) O (sC_r3 hG rg_7) hi_37 dX3_lookAhead_37 (fun σ37 e_σ37 => ?_)
      have h := h σ37 e_σ37
      refine fr_iconst (pc := 38) O (v := (0 : Int32)) dX3_lookAhead_38 (by decide) ?_
      refine fr_istore (pc := 39) O [1, 2, 3, 4, 0] (lv' := [(0, .ref (gad G 0)), (1, .int a1), (2, .int a2), (3, .int x3), (4, .int (0 : Int32))]) dX3_lookAhead_39 (by decide) rfl ?_
      obtain ⟨n9, h⟩ := h
      exact kX3_lookAhead_L41w hG O hk2 h
set_option maxRecDepth 20000 in
theorem kX3_lookAhead_L2w {X : Cx} {G : Gw} (hG : fw_IsC G) (O : fw_Ok X G cX3_lookAhead 5 RX3 5 110 none) {a1 : Int32} {a2 : Int32} {post : Mem → Prop}   {n9 : Nat} {x3 : Int32} {σ : Mem} (h : it1 (qX3_lookAhead_L2 a1 a2 post) n9 x3 σ) : fw_At X G 5 (fw_QV X G post) 2 [(0, .ref (gad G 0)), (1, .int a1), (2, .int a2), (3, .int x3)] [] σ :=
  it1_walk (T := fun x3 σ => fw_At X G 5 (fw_QV X G post) 2 [(0, .ref (gad G 0)), (1, .int a1), (2, .int a2), (3, .int x3)] [] σ) (fun k2 hk2 x3 σ h => kX3_lookAhead_L2 hG O hk2 h) n9 x3 σ h
def qX3_lookAhead (a1 : Int32) (a2 : Int32) (σ : Mem) (post : Mem → Prop) : Prop := ∃ n9, it1 (qX3_lookAhead_L2 a1 a2 post) n9 (0 : Int32) σ
set_option maxRecDepth 20000 in
theorem kX3_lookAhead {X : Cx} {G : Gw} (hG : fw_IsC G) (O : fw_Ok X G cX3_lookAhead 5 RX3 5 110 none) {a1 : Int32} {a2 : Int32}  {σ : Mem} {post : Mem → Prop} (h : qX3_lookAhead a1 a2 σ post) : fw_At X G 5 (fw_QV X G post) 0 [(0, .ref (gad G 0)), (1, .int a1), (2, .int a2)] [] σ := by
  unfold qX3_lookAhead at h
  refine fr_iconst (pc := 0) O (v := (0 : Int32)) dX3_lookAhead_0 (by decide) ?_
  refine fr_istore_n (pc := 1) O [1, 2, 3, 0] (lv' := [(0, .ref (gad G 0)), (1, .int a1), (2, .int a2), (3, .int (0 : Int32))]) dX3_lookAhead_1 rfl (by decide) rfl ?_
  obtain ⟨n9, h⟩ := h
  exact kX3_lookAhead_L2w hG O  h
theorem tX3_lookAhead (l : Launch) {G : Gw} (hG : fw_IsC G) {a1 : Int32} {a2 : Int32}  {σ : Mem} {post : Mem → Prop} (h : qX3_lookAhead a1 a2 σ post) : fw_CV l G yX3_lookAhead cX3_lookAhead 5 5 110 [.ref (gad G 0), .int a1, .int a2] σ post := fw_ofV (sok_C hG) (by decide) (Nat.le_of_ble_eq_true rfl) (fun X O => kX3_lookAhead hG O  h)
def qJ6_bitCount_0f7a4 (a0 : Int32) (σ : Mem) (post : Int32 → Mem → Prop) : Prop := (∀ y0_9 : Int32, y0_9 = a0 - (((a0.toUInt32 >>> ((1 : Int32).toUInt32 &&& Int32.toUInt32 31)).toInt32) &&& (1431655765 : Int32)) → (∀ y0_23 : Int32, y0_23 = (y0_9 &&& (858993459 : Int32)) + (((y0_9.toUInt32 >>> ((2 : Int32).toUInt32 &&& Int32.toUInt32 31)).toInt32) &&& (858993459 : Int32)) → (∀ y0_33 : Int32, y0_33 = (y0_23 + ((y0_23.toUInt32 >>> ((4 : Int32).toUInt32 &&& Int32.toUInt32 31)).toInt32)) &&& (252645135 : Int32) → (∀ y0_40 : Int32, y0_40 = y0_33 + ((y0_33.toUInt32 >>> ((8 : Int32).toUInt32 &&& Int32.toUInt32 31)).toInt32) → (∀ y0_47 : Int32, y0_47 = y0_40 + ((y0_40.toUInt32 >>> ((16 : Int32).toUInt32 &&& Int32.toUInt32 31)).toInt32) → post (y0_47 &&& (63 : Int32)) σ)))))
set_option maxRecDepth 20000 in
theorem kJ6_bitCount_0f7a4 {X : Cx} {G : Gw} (hG : fw_IsC G) (O : fw_Ok X G cJ6_bitCount_0f7a4 1 RJ6 0 0 (some .int)) {a0 : Int32}  {σ : Mem} {post : Int32 → Mem → Prop} (h : qJ6_bitCount_0f7a4 a0 σ post) : fw_At X G 1 (fw_QI X G post) 0 [(0, .int a0)] [] σ := by
  unfold qJ6_bitCount_0f7a4 at h
  refine fr_iload_n (pc := 0) O 0 dJ6_bitCount_0f7a4_0 rfl rfl ?_
  refine fr_iload_n (pc := 1) O 0 dJ6_bitCount_0f7a4_1 rfl rfl ?_
  refine fr_iconst (pc := 2) O (v := (1 : Int32)) dJ6_bitCount_0f7a4_2 (by decide) ?_
  refine fr_iushr (pc := 3) O dJ6_bitCount_0f7a4_3 ?_
  refine fr_ldcw (pc := 4) O m_650 dJ6_bitCount_0f7a4_4 ?_
  refine fr_iand (pc := 7) O dJ6_bitCount_0f7a4_7 ?_
  refine fr_isub (pc := 8) O dJ6_bitCount_0f7a4_8 ?_
  refine fr_nm (fun y0_9 e_y0_9 => ?_)
  have h := h y0_9 e_y0_9
  refine fr_istore_n (pc := 9) O [0] (lv' := [(0, .int y0_9)]) dJ6_bitCount_0f7a4_9 rfl (by decide) rfl ?_
  refine fr_iload_n (pc := 10) O 0 dJ6_bitCount_0f7a4_10 rfl rfl ?_
  refine fr_ldcw (pc := 11) O m_651 dJ6_bitCount_0f7a4_11 ?_
  refine fr_iand (pc := 14) O dJ6_bitCount_0f7a4_14 ?_
  refine fr_iload_n (pc := 15) O 0 dJ6_bitCount_0f7a4_15 rfl rfl ?_
  refine fr_iconst (pc := 16) O (v := (2 : Int32)) dJ6_bitCount_0f7a4_16 (by decide) ?_
  refine fr_iushr (pc := 17) O dJ6_bitCount_0f7a4_17 ?_
  refine fr_ldcw (pc := 18) O m_651 dJ6_bitCount_0f7a4_18 ?_
  refine fr_iand (pc := 21) O dJ6_bitCount_0f7a4_21 ?_
  refine fr_iadd (pc := 22) O dJ6_bitCount_0f7a4_22 ?_
  refine fr_nm (fun y0_23 e_y0_23 => ?_)
  have h := h y0_23 e_y0_23
  refine fr_istore_n (pc := 23) O [0] (lv' := [(0, .int y0_23)]) dJ6_bitCount_0f7a4_23 rfl (by decide) rfl ?_
  refine fr_iload_n (pc := 24) O 0 dJ6_bitCount_0f7a4_24 rfl rfl ?_
  refine fr_iload_n (pc := 25) O 0 dJ6_bitCount_0f7a4_25 rfl rfl ?_
  refine fr_iconst (pc := 26) O (v := (4 : Int32)) dJ6_bitCount_0f7a4_26 (by decide) ?_
  refine fr_iushr (pc := 27) O dJ6_bitCount_0f7a4_27 ?_
  refine fr_iadd (pc := 28) O dJ6_bitCount_0f7a4_28 ?_
  refine fr_ldcw (pc := 29) O m_652 dJ6_bitCount_0f7a4_29 ?_
  refine fr_iand (pc := 32) O dJ6_bitCount_0f7a4_32 ?_
  refine fr_nm (fun y0_33 e_y0_33 => ?_)
  have h := h y0_33 e_y0_33
  refine fr_istore_n (pc := 33) O [0] (lv' := [(0, .int y0_33)]) dJ6_bitCount_0f7a4_33 rfl (by decide) rfl ?_
  refine fr_iload_n (pc := 34) O 0 dJ6_bitCount_0f7a4_34 rfl rfl ?_
  refine fr_iload_n (pc := 35) O 0 dJ6_bitCount_0f7a4_35 rfl rfl ?_
  refine fr_bipush (pc := 36) O (v := (8 : Int32)) dJ6_bitCount_0f7a4_36 (by decide) ?_
  refine fr_iushr (pc := 38) O dJ6_bitCount_0f7a4_38 ?_
  refine fr_iadd (pc := 39) O dJ6_bitCount_0f7a4_39 ?_
  refine fr_nm (fun y0_40 e_y0_40 => ?_)
  have h := h y0_40 e_y0_40
  refine fr_istore_n (pc := 40) O [0] (lv' := [(0, .int y0_40)]) dJ6_bitCount_0f7a4_40 rfl (by decide) rfl ?_
  refine fr_iload_n (pc := 41) O 0 dJ6_bitCount_0f7a4_41 rfl rfl ?_
  refine fr_iload_n (pc := 42) O 0 dJ6_bitCount_0f7a4_42 rfl rfl ?_
  refine fr_bipush (pc := 43) O (v := (16 : Int32)) dJ6_bitCount_0f7a4_43 (by decide) ?_
  refine fr_iushr (pc := 45) O dJ6_bitCount_0f7a4_45 ?_
  refine fr_iadd (pc := 46) O dJ6_bitCount_0f7a4_46 ?_
  refine fr_nm (fun y0_47 e_y0_47 => ?_)
  have h := h y0_47 e_y0_47
  refine fr_istore_n (pc := 47) O [0] (lv' := [(0, .int y0_47)]) dJ6_bitCount_0f7a4_47 rfl (by decide) rfl ?_
  refine fr_iload_n (pc := 48) O 0 dJ6_bitCount_0f7a4_48 rfl rfl ?_
  refine fr_bipush (pc := 49) O (v := (63 : Int32)) dJ6_bitCount_0f7a4_49 (by decide) ?_
  refine fr_iand (pc := 51) O dJ6_bitCount_0f7a4_51 ?_
  exact fr_iret (pc := 52) O dJ6_bitCount_0f7a4_52 h
theorem tJ6_bitCount_0f7a4 (l : Launch) {G : Gw} (hG : fw_IsC G) {a0 : Int32}  {σ : Mem} {post : Int32 → Mem → Prop} (h : qJ6_bitCount_0f7a4 a0 σ post) : fw_CI l G yJ6_bitCount_0f7a4 cJ6_bitCount_0f7a4 1 .int 0 0 [.int a0] σ post := fw_ofI (sok_C hG) (by decide) (Nat.le_of_ble_eq_true rfl) (fun X O => kJ6_bitCount_0f7a4 hG O  h)
def qX3_lossesLookingLike_B56 (a1 : Int32) (a2 : Int32) (a3 : Int32) (post : Int32 → Mem → Prop) (k19 : Int32 → Int32 → Int32 → Mem → Prop) (x4 : Int32) (x5 : Int32) (x6 : Int32) (σ : Mem) : Prop := (∀ y6_56 : Int32, y6_56 = x6 + (1 : Int32) → k19 x4 x5 y6_56 σ)
set_option maxRecDepth 20000 in
theorem kX3_lossesLookingLike_B56 {X : Cx} {G : Gw} (hG : fw_IsC G) (O : fw_Ok X G cX3_lossesLookingLike 7 RX3 0 0 (some .int)) {a1 : Int32} {a2 : Int32} {a3 : Int32} {post : Int32 → Mem → Prop} {k19 : Int32 → Int32 → Int32 → Mem → Prop}  (hk19 : ∀ (x4 : Int32) (x5 : Int32) (x6 : Int32) (σ : Mem), k19 x4 x5 x6 σ → fw_At X G 7 (fw_QI X G post) 19 [(0, .ref (gad G 0)), (1, .int a1), (2, .int a2), (3, .int a3), (4, .int x4), (5, .int x5), (6, .int x6)] [] σ) {x4 : Int32} {x5 : Int32} {x6 : Int32} {σ : Mem} (h : qX3_lossesLookingLike_B56 a1 a2 a3 post k19 x4 x5 x6 σ) : fw_At X G 7 (fw_QI X G post) 56 [(0, .ref (gad G 0)), (1, .int a1), (2, .int a2), (3, .int a3), (4, .int x4), (5, .int x5), (6, .int x6)] [] σ := by
  unfold qX3_lossesLookingLike_B56 at h
  refine fr_iinc (pc := 56) O 6 [1, 2, 3, 4, 5, 6, 0] (w := (1 : Int32)) (lvF := fun y6_56 => [(0, .ref (gad G 0)), (1, .int a1), (2, .int a2), (3, .int a3), (4, .int x4), (5, .int x5), (6, .int y6_56)]) dX3_lossesLookingLike_56 rfl (by decide) (by decide) (fun _ => rfl) (fun y6_56 e_y6_56 => ?_)
  have h := h y6_56 e_y6_56
  refine fr_goto (pc := 59) (tgt := 19) O dX3_lossesLookingLike_59 (by decide) ?_
  exact hk19 _ _ _ _ h
def qX3_lossesLookingLike_L19 (a1 : Int32) (a2 : Int32) (a3 : Int32) (post : Int32 → Mem → Prop) (k19 : Int32 → Int32 → Int32 → Mem → Prop) (x4 : Int32) (x5 : Int32) (x6 : Int32) (σ : Mem) : Prop := (((9 : Int32) < x6 → post x5 σ) ∧ (¬ (9 : Int32) < x6 → ((¬ ((a3 >>> (x6 &&& 31)) &&& (1 : Int32)) = (1 : Int32) → qX3_lossesLookingLike_B56 a1 a2 a3 post k19 x4 x5 x6 σ) ∧ (((a3 >>> (x6 &&& 31)) &&& (1 : Int32)) = (1 : Int32) → (vp_in ((x6 * (41 : Int32)) + a2) 410 ∧ ((¬ (σ 47 ((x6 * (41 : Int32)) + a2).toNatClampNeg) = x4 → qX3_lossesLookingLike_B56 a1 a2 a3 post k19 x4 x5 x6 σ) ∧ ((σ 47 ((x6 * (41 : Int32)) + a2).toNatClampNeg) = x4 → (∀ y5_53 : Int32, y5_53 = x5 + (1 : Int32) → qX3_lossesLookingLike_B56 a1 a2 a3 post k19 x4 y5_53 x6 σ))))))))
set_option maxRecDepth 20000 in
theorem kX3_lossesLookingLike_L19 {X : Cx} {G : Gw} (hG : fw_IsC G) (O : fw_Ok X G cX3_lossesLookingLike 7 RX3 0 0 (some .int)) {a1 : Int32} {a2 : Int32} {a3 : Int32} {post : Int32 → Mem → Prop} {k19 : Int32 → Int32 → Int32 → Mem → Prop}  (hk19 : ∀ (x4 : Int32) (x5 : Int32) (x6 : Int32) (σ : Mem), k19 x4 x5 x6 σ → fw_At X G 7 (fw_QI X G post) 19 [(0, .ref (gad G 0)), (1, .int a1), (2, .int a2), (3, .int a3), (4, .int x4), (5, .int x5), (6, .int x6)] [] σ) {x4 : Int32} {x5 : Int32} {x6 : Int32} {σ : Mem} (h : qX3_lossesLookingLike_L19 a1 a2 a3 post k19 x4 x5 x6 σ) : fw_At X G 7 (fw_QI X G post) 19 [(0, .ref (gad G 0)), (1, .int a1), (2, .int a2), (3, .int a3), (4, .int x4), (5, .int x5), (6, .int x6)] [] σ := by
  unfold qX3_lossesLookingLike_L19 at h
  refine fr_iload (pc := 19) O 6 dX3_lossesLookingLike_19 rfl ?_
  refine fr_bipush (pc := 21) O (v := (9 : Int32)) dX3_lossesLookingLike_21 (by decide) ?_
  refine fr_icmp_gt (pc := 23) (tgt := 62) O dX3_lossesLookingLike_23 (by decide) (fun c_23 => ?_) (fun c_23 => ?_)
  · have h := h.1 c_23
    refine fr_iload (pc := 62) O 5 dX3_lossesLookingLike_62 rfl ?_
    exact fr_iret (pc := 64) O dX3_lossesLookingLike_64 h
  · have h := h.2 c_23
    refine fr_iload_n (pc := 26) O 3 dX3_lossesLookingLike_26 rfl rfl ?_
    refine fr_iload (pc := 27) O 6 dX3_lossesLookingLike_27 rfl ?_
    refine fr_ishr (pc := 29) O dX3_lossesLookingLike_29 ?_
    refine fr_iconst (pc := 30) O (v := (1 : Int32)) dX3_lossesLookingLike_30 (by decide) ?_
    refine fr_iand (pc := 31) O dX3_lossesLookingLike_31 ?_
    refine fr_iconst (pc := 32) O (v := (1 : Int32)) dX3_lossesLookingLike_32 (by decide) ?_
    refine fr_icmp_ne (pc := 33) (tgt := 56) O dX3_lossesLookingLike_33 (by decide) (fun c_33 => ?_) (fun c_33 => ?_)
    · have h := h.1 c_33
      exact kX3_lossesLookingLike_B56 hG O hk19 h
    · have h := h.2 c_33
      refine fr_aload_n (pc := 36) O 0 dX3_lossesLookingLike_36 rfl rfl ?_
      refine fr_get (pc := 37) (k := 13) (v := .ref (gad G 47)) O cl_X3 m_203 (sC_0 hG) (by decide) rfl rfl dX3_lossesLookingLike_37 ?_
      refine fr_iload (pc := 40) O 6 dX3_lossesLookingLike_40 rfl ?_
      refine fr_bipush (pc := 42) O (v := (41 : Int32)) dX3_lossesLookingLike_42 (by decide) ?_
      refine fr_imul (pc := 44) O dX3_lossesLookingLike_44 ?_
      refine fr_iload_n (pc := 45) O 2 dX3_lossesLookingLike_45 rfl rfl ?_
      refine fr_iadd (pc := 46) O dX3_lossesLookingLike_46 ?_
      have hi_47 := h.1
      have h := h.2
      refine fr_iald (pc := 47) O (sC_47 hG) hi_47 dX3_lossesLookingLike_47 ?_
      refine fr_iload (pc := 48) O 4 dX3_lossesLookingLike_48 rfl ?_
      refine fr_icmp_ne (pc := 50) (tgt := 56) O dX3_lossesLookingLike_50 (by decide) (fun c_50 => ?_) (fun c_50 => ?_)
      · have h := h.1 c_50
        exact kX3_lossesLookingLike_B56 hG O hk19 h
      · have h := h.2 c_50
        refine fr_iinc (pc := 53) O 5 [1, 2, 3, 4, 5, 0, 6] (w := (1 : Int32)) (lvF := fun y5_53 => [(0, .ref (gad G 0)), (1, .int a1), (2, .int a2), (3, .int a3), (4, .int x4), (5, .int y5_53), (6, .int x6)]) dX3_lossesLookingLike_53 rfl (by decide) (by decide) (fun _ => rfl) (fun y5_53 e_y5_53 => ?_)
        have h := h y5_53 e_y5_53
        exact kX3_lossesLookingLike_B56 hG O hk19 h
set_option maxRecDepth 20000 in
theorem kX3_lossesLookingLike_L19w {X : Cx} {G : Gw} (hG : fw_IsC G) (O : fw_Ok X G cX3_lossesLookingLike 7 RX3 0 0 (some .int)) {a1 : Int32} {a2 : Int32} {a3 : Int32} {post : Int32 → Mem → Prop}   {n9 : Nat} {x4 : Int32} {x5 : Int32} {x6 : Int32} {σ : Mem} (h : it3 (qX3_lossesLookingLike_L19 a1 a2 a3 post) n9 x4 x5 x6 σ) : fw_At X G 7 (fw_QI X G post) 19 [(0, .ref (gad G 0)), (1, .int a1), (2, .int a2), (3, .int a3), (4, .int x4), (5, .int x5), (6, .int x6)] [] σ :=
  it3_walk (T := fun x4 x5 x6 σ => fw_At X G 7 (fw_QI X G post) 19 [(0, .ref (gad G 0)), (1, .int a1), (2, .int a2), (3, .int a3), (4, .int x4), (5, .int x5), (6, .int x6)] [] σ) (fun k19 hk19 x4 x5 x6 σ h => kX3_lossesLookingLike_L19 hG O hk19 h) n9 x4 x5 x6 σ h
def qX3_lossesLookingLike (a1 : Int32) (a2 : Int32) (a3 : Int32) (σ : Mem) (post : Int32 → Mem → Prop) : Prop := (vp_in ((a1 * (41 : Int32)) + a2) 410 ∧ (∀ y4_11 : Int32, y4_11 = σ 47 ((a1 * (41 : Int32)) + a2).toNatClampNeg → ∃ n9, it3 (qX3_lossesLookingLike_L19 a1 a2 a3 post) n9 y4_11 (0 : Int32) (0 : Int32) σ))
set_option maxRecDepth 20000 in
theorem kX3_lossesLookingLike {X : Cx} {G : Gw} (hG : fw_IsC G) (O : fw_Ok X G cX3_lossesLookingLike 7 RX3 0 0 (some .int)) {a1 : Int32} {a2 : Int32} {a3 : Int32}  {σ : Mem} {post : Int32 → Mem → Prop} (h : qX3_lossesLookingLike a1 a2 a3 σ post) : fw_At X G 7 (fw_QI X G post) 0 [(0, .ref (gad G 0)), (1, .int a1), (2, .int a2), (3, .int a3)] [] σ := by
  unfold qX3_lossesLookingLike at h
  refine fr_aload_n (pc := 0) O 0 dX3_lossesLookingLike_0 rfl rfl ?_
  refine fr_get (pc := 1) (k := 13) (v := .ref (gad G 47)) O cl_X3 m_203 (sC_0 hG) (by decide) rfl rfl dX3_lossesLookingLike_1 ?_
  refine fr_iload_n (pc := 4) O 1 dX3_lossesLookingLike_4 rfl rfl ?_
  refine fr_bipush (pc := 5) O (v := (41 : Int32)) dX3_lossesLookingLike_5 (by decide) ?_
  refine fr_imul (pc := 7) O dX3_lossesLookingLike_7 ?_
  refine fr_iload_n (pc := 8) O 2 dX3_lossesLookingLike_8 rfl rfl ?_
  refine fr_iadd (pc := 9) O dX3_lossesLookingLike_9 ?_
  have hi_10 := h.1
  have h := h.2
  refine fr_iald (pc := 10) O (sC_47 hG) hi_10 dX3_lossesLookingLike_10 ?_
  refine fr_nm (fun y4_11 e_y4_11 => ?_)
  have h := h y4_11 e_y4_11
  refine fr_istore (pc := 11) O [1, 2, 3, 4, 0] (lv' := [(0, .ref (gad G 0)), (1, .int a1), (2, .int a2), (3, .int a3), (4, .int y4_11)]) dX3_lossesLookingLike_11 (by decide) rfl ?_
  refine fr_iconst (pc := 13) O (v := (0 : Int32)) dX3_lossesLookingLike_13 (by decide) ?_
  refine fr_istore (pc := 14) O [1, 2, 3, 4, 5, 0] (lv' := [(0, .ref (gad G 0)), (1, .int a1), (2, .int a2), (3, .int a3), (4, .int y4_11), (5, .int (0 : Int32))]) dX3_lossesLookingLike_14 (by decide) rfl ?_
  refine fr_iconst (pc := 16) O (v := (0 : Int32)) dX3_lossesLookingLike_16 (by decide) ?_
  refine fr_istore (pc := 17) O [1, 2, 3, 4, 5, 6, 0] (lv' := [(0, .ref (gad G 0)), (1, .int a1), (2, .int a2), (3, .int a3), (4, .int y4_11), (5, .int (0 : Int32)), (6, .int (0 : Int32))]) dX3_lossesLookingLike_17 (by decide) rfl ?_
  obtain ⟨n9, h⟩ := h
  exact kX3_lossesLookingLike_L19w hG O  h
theorem tX3_lossesLookingLike (l : Launch) {G : Gw} (hG : fw_IsC G) {a1 : Int32} {a2 : Int32} {a3 : Int32}  {σ : Mem} {post : Int32 → Mem → Prop} (h : qX3_lossesLookingLike a1 a2 a3 σ post) : fw_CI l G yX3_lossesLookingLike cX3_lossesLookingLike 7 .int 0 0 [.ref (gad G 0), .int a1, .int a2, .int a3] σ post := fw_ofI (sok_C hG) (by decide) (Nat.le_of_ble_eq_true rfl) (fun X O => kX3_lossesLookingLike hG O  h)
def qX3_leftAtWorst_B35 (a1 : Int32) (a2 : Int32) (post : Int32 → Mem → Prop) (k5 : Int32 → Int32 → Mem → Prop) (x3 : Int32) (x4 : Int32) (σ : Mem) : Prop := (∀ y4_35 : Int32, y4_35 = x4 + (1 : Int32) → k5 x3 y4_35 σ)
set_option maxRecDepth 20000 in
theorem kX3_leftAtWorst_B35 {X : Cx} {G : Gw} (hG : fw_IsC G) (O : fw_Ok X G cX3_leftAtWorst 5 RX3 1 26 (some .int)) {a1 : Int32} {a2 : Int32} {post : Int32 → Mem → Prop} {k5 : Int32 → Int32 → Mem → Prop}  (hk5 : ∀ (x3 : Int32) (x4 : Int32) (σ : Mem), k5 x3 x4 σ → fw_At X G 5 (fw_QI X G post) 5 [(0, .ref (gad G 0)), (1, .int a1), (2, .int a2), (3, .int x3), (4, .int x4)] [] σ) {x3 : Int32} {x4 : Int32} {σ : Mem} (h : qX3_leftAtWorst_B35 a1 a2 post k5 x3 x4 σ) : fw_At X G 5 (fw_QI X G post) 35 [(0, .ref (gad G 0)), (1, .int a1), (2, .int a2), (3, .int x3), (4, .int x4)] [] σ := by
  unfold qX3_leftAtWorst_B35 at h
  refine fr_iinc (pc := 35) O 4 [1, 2, 3, 4, 0] (w := (1 : Int32)) (lvF := fun y4_35 => [(0, .ref (gad G 0)), (1, .int a1), (2, .int a2), (3, .int x3), (4, .int y4_35)]) dX3_leftAtWorst_35 rfl (by decide) (by decide) (fun _ => rfl) (fun y4_35 e_y4_35 => ?_)
  have h := h y4_35 e_y4_35
  refine fr_goto (pc := 38) (tgt := 5) O dX3_leftAtWorst_38 (by decide) ?_
  exact hk5 _ _ _ h
def qX3_leftAtWorst_L5 (a1 : Int32) (a2 : Int32) (post : Int32 → Mem → Prop) (k5 : Int32 → Int32 → Mem → Prop) (x3 : Int32) (x4 : Int32) (σ : Mem) : Prop := (((9 : Int32) < x4 → post x3 σ) ∧ (¬ (9 : Int32) < x4 → ((¬ ((a2 >>> (x4 &&& 31)) &&& (1 : Int32)) = (1 : Int32) → qX3_leftAtWorst_B35 a1 a2 post k5 x3 x4 σ) ∧ (((a2 >>> (x4 &&& 31)) &&& (1 : Int32)) = (1 : Int32) → (qX3_lossesLookingLike x4 a1 a2 σ (fun r28 σ28 => (∀ y3_34 : Int32, y3_34 = (if x3 < r28 then r28 else x3) → qX3_leftAtWorst_B35 a1 a2 post k5 y3_34 x4 σ28)))))))
set_option maxRecDepth 20000 in
theorem kX3_leftAtWorst_L5 {X : Cx} {G : Gw} (hG : fw_IsC G) (O : fw_Ok X G cX3_leftAtWorst 5 RX3 1 26 (some .int)) {a1 : Int32} {a2 : Int32} {post : Int32 → Mem → Prop} {k5 : Int32 → Int32 → Mem → Prop}  (hk5 : ∀ (x3 : Int32) (x4 : Int32) (σ : Mem), k5 x3 x4 σ → fw_At X G 5 (fw_QI X G post) 5 [(0, .ref (gad G 0)), (1, .int a1), (2, .int a2), (3, .int x3), (4, .int x4)] [] σ) {x3 : Int32} {x4 : Int32} {σ : Mem} (h : qX3_leftAtWorst_L5 a1 a2 post k5 x3 x4 σ) : fw_At X G 5 (fw_QI X G post) 5 [(0, .ref (gad G 0)), (1, .int a1), (2, .int a2), (3, .int x3), (4, .int x4)] [] σ := by
  unfold qX3_leftAtWorst_L5 at h
  refine fr_iload (pc := 5) O 4 dX3_leftAtWorst_5 rfl ?_
  refine fr_bipush (pc := 7) O (v := (9 : Int32)) dX3_leftAtWorst_7 (by decide) ?_
  refine fr_icmp_gt (pc := 9) (tgt := 41) O dX3_leftAtWorst_9 (by decide) (fun c_9 => ?_) (fun c_9 => ?_)
  · have h := h.1 c_9
    refine fr_iload_n (pc := 41) O 3 dX3_leftAtWorst_41 rfl rfl ?_
    exact fr_iret (pc := 42) O dX3_leftAtWorst_42 h
  · have h := h.2 c_9
    refine fr_iload_n (pc := 12) O 2 dX3_leftAtWorst_12 rfl rfl ?_
    refine fr_iload (pc := 13) O 4 dX3_leftAtWorst_13 rfl ?_
    refine fr_ishr (pc := 15) O dX3_leftAtWorst_15 ?_
    refine fr_iconst (pc := 16) O (v := (1 : Int32)) dX3_leftAtWorst_16 (by decide) ?_
    refine fr_iand (pc := 17) O dX3_leftAtWorst_17 ?_
    refine fr_iconst (pc := 18) O (v := (1 : Int32)) dX3_leftAtWorst_18 (by decide) ?_
    refine fr_icmp_ne (pc := 19) (tgt := 35) O dX3_leftAtWorst_19 (by decide) (fun c_19 => ?_) (fun c_19 => ?_)
    · have h := h.1 c_19
      exact kX3_leftAtWorst_B35 hG O hk5 h
    · have h := h.2 c_19
      refine fr_iload_n (pc := 22) O 3 dX3_leftAtWorst_22 rfl rfl ?_
      refine fr_aload_n (pc := 23) O 0 dX3_leftAtWorst_23 rfl rfl ?_
      refine fr_iload (pc := 24) O 4 dX3_leftAtWorst_24 rfl ?_
      refine fr_iload_n (pc := 26) O 1 dX3_leftAtWorst_26 rfl rfl ?_
      refine fr_iload_n (pc := 27) O 2 dX3_leftAtWorst_27 rfl rfl ?_
      refine fr_callVI (pc := 28) (st := [.int x3]) O (tX3_lossesLookingLike X.2.1 hG  h) mt_X3_lossesLookingLike mv_X3_lossesLookingLike m_657 cl_X3 rfl (sC_0 hG) rfl (by decide) rfl (Nat.le_of_ble_eq_true rfl) dX3_leftAtWorst_28 (fun r28 σ28 h => ?_)
      refine fr_mmax (pc := 31) O ml_519 ml_427 m_58 ml_428 ⟨by decide, Nat.le_of_ble_eq_true rfl⟩ dX3_leftAtWorst_31 ?_
      refine fr_nm (fun y3_34 e_y3_34 => ?_)
      have h := h y3_34 e_y3_34
      refine fr_istore_n (pc := 34) O [1, 2, 3, 0, 4] (lv' := [(0, .ref (gad G 0)), (1, .int a1), (2, .int a2), (3, .int y3_34), (4, .int x4)]) dX3_leftAtWorst_34 rfl (by decide) rfl ?_
      exact kX3_leftAtWorst_B35 hG O hk5 h
set_option maxRecDepth 20000 in
theorem kX3_leftAtWorst_L5w {X : Cx} {G : Gw} (hG : fw_IsC G) (O : fw_Ok X G cX3_leftAtWorst 5 RX3 1 26 (some .int)) {a1 : Int32} {a2 : Int32} {post : Int32 → Mem → Prop}   {n9 : Nat} {x3 : Int32} {x4 : Int32} {σ : Mem} (h : it2 (qX3_leftAtWorst_L5 a1 a2 post) n9 x3 x4 σ) : fw_At X G 5 (fw_QI X G post) 5 [(0, .ref (gad G 0)), (1, .int a1), (2, .int a2), (3, .int x3), (4, .int x4)] [] σ :=
  it2_walk (T := fun x3 x4 σ => fw_At X G 5 (fw_QI X G post) 5 [(0, .ref (gad G 0)), (1, .int a1), (2, .int a2), (3, .int x3), (4, .int x4)] [] σ) (fun k5 hk5 x3 x4 σ h => kX3_leftAtWorst_L5 hG O hk5 h) n9 x3 x4 σ h
def qX3_leftAtWorst (a1 : Int32) (a2 : Int32) (σ : Mem) (post : Int32 → Mem → Prop) : Prop := ∃ n9, it2 (qX3_leftAtWorst_L5 a1 a2 post) n9 (0 : Int32) (0 : Int32) σ
set_option maxRecDepth 20000 in
theorem kX3_leftAtWorst {X : Cx} {G : Gw} (hG : fw_IsC G) (O : fw_Ok X G cX3_leftAtWorst 5 RX3 1 26 (some .int)) {a1 : Int32} {a2 : Int32}  {σ : Mem} {post : Int32 → Mem → Prop} (h : qX3_leftAtWorst a1 a2 σ post) : fw_At X G 5 (fw_QI X G post) 0 [(0, .ref (gad G 0)), (1, .int a1), (2, .int a2)] [] σ := by
  unfold qX3_leftAtWorst at h
  refine fr_iconst (pc := 0) O (v := (0 : Int32)) dX3_leftAtWorst_0 (by decide) ?_
  refine fr_istore_n (pc := 1) O [1, 2, 3, 0] (lv' := [(0, .ref (gad G 0)), (1, .int a1), (2, .int a2), (3, .int (0 : Int32))]) dX3_leftAtWorst_1 rfl (by decide) rfl ?_
  refine fr_iconst (pc := 2) O (v := (0 : Int32)) dX3_leftAtWorst_2 (by decide) ?_
  refine fr_istore (pc := 3) O [1, 2, 3, 4, 0] (lv' := [(0, .ref (gad G 0)), (1, .int a1), (2, .int a2), (3, .int (0 : Int32)), (4, .int (0 : Int32))]) dX3_leftAtWorst_3 (by decide) rfl ?_
  obtain ⟨n9, h⟩ := h
  exact kX3_leftAtWorst_L5w hG O  h
theorem tX3_leftAtWorst (l : Launch) {G : Gw} (hG : fw_IsC G) {a1 : Int32} {a2 : Int32}  {σ : Mem} {post : Int32 → Mem → Prop} (h : qX3_leftAtWorst a1 a2 σ post) : fw_CI l G yX3_leftAtWorst cX3_leftAtWorst 5 .int 1 26 [.ref (gad G 0), .int a1, .int a2] σ post := fw_ofI (sok_C hG) (by decide) (Nat.le_of_ble_eq_true rfl) (fun X O => kX3_leftAtWorst hG O  h)
def qX3_ask_B20 (a1 : Int32) (a2 : Int32) (post : Int32 → Mem → Prop) (σ : Mem) : Prop := post (-1 : Int32) σ
set_option maxRecDepth 20000 in
theorem kX3_ask_B20 {X : Cx} {G : Gw} (hG : fw_IsC G) (O : fw_Ok X G cX3_ask 8 RX3 7 155 (some .int)) {a1 : Int32} {a2 : Int32} {post : Int32 → Mem → Prop}    {σ : Mem} (h : qX3_ask_B20 a1 a2 post σ) : fw_At X G 8 (fw_QI X G post) 20 [(0, .ref (gad G 0)), (1, .int a1), (2, .int a2)] [] σ := by
  unfold qX3_ask_B20 at h
  refine fr_iconst (pc := 20) O (v := (-1 : Int32)) dX3_ask_20 (by decide) ?_
  exact fr_iret (pc := 21) O dX3_ask_21 h
def qX3_ask_B102 (a1 : Int32) (a2 : Int32) (post : Int32 → Mem → Prop) (s0 : Int32) (σ : Mem) : Prop := post s0 σ
set_option maxRecDepth 20000 in
theorem kX3_ask_B102 {X : Cx} {G : Gw} (hG : fw_IsC G) (O : fw_Ok X G cX3_ask 8 RX3 7 155 (some .int)) {a1 : Int32} {a2 : Int32} {post : Int32 → Mem → Prop}   {s0 : Int32} {σ : Mem} (h : qX3_ask_B102 a1 a2 post s0 σ) : fw_At X G 8 (fw_QI X G post) 102 [(0, .ref (gad G 0)), (1, .int a1), (2, .int a2)] [.int s0] σ := by
  unfold qX3_ask_B102 at h
  exact fr_iret (pc := 102) O dX3_ask_102 h
def qX3_ask_B95 (a1 : Int32) (a2 : Int32) (post : Int32 → Mem → Prop) (x4 : Int32) (σ : Mem) : Prop := qX3_ask_B102 a1 a2 post x4 σ
set_option maxRecDepth 20000 in
theorem kX3_ask_B95 {X : Cx} {G : Gw} (hG : fw_IsC G) (O : fw_Ok X G cX3_ask 8 RX3 7 155 (some .int)) {a1 : Int32} {a2 : Int32} {post : Int32 → Mem → Prop}   {x4 : Int32} {σ : Mem} (h : qX3_ask_B95 a1 a2 post x4 σ) : fw_At X G 8 (fw_QI X G post) 95 [(0, .ref (gad G 0)), (1, .int a1), (2, .int a2), (4, .int x4)] [] σ := by
  unfold qX3_ask_B95 at h
  refine fr_iload (pc := 95) O 3 dX3_ask_95 rfl ?_
  refine fr_goto (pc := 97) (tgt := 102) O dX3_ask_97 (by decide) ?_
  refine fw_sub (lv' := [(0, .ref (gad G 0)), (1, .int a1), (2, .int a2)]) [0, 1, 2] rfl ?_
  exact kX3_ask_B102 hG O  h
def qX3_ask_B78 (a1 : Int32) (a2 : Int32) (post : Int32 → Mem → Prop) (k47 : Int32 → Int32 → Int32 → Int32 → Mem → Prop) (x3 : Int32) (x4 : Int32) (x5 : Int32) (x6 : Int32) (σ : Mem) : Prop := (∀ y6_78 : Int32, y6_78 = x6 + (1 : Int32) → k47 x3 x4 x5 y6_78 σ)
set_option maxRecDepth 20000 in
theorem kX3_ask_B78 {X : Cx} {G : Gw} (hG : fw_IsC G) (O : fw_Ok X G cX3_ask 8 RX3 7 155 (some .int)) {a1 : Int32} {a2 : Int32} {post : Int32 → Mem → Prop} {k47 : Int32 → Int32 → Int32 → Int32 → Mem → Prop}  (hk47 : ∀ (x3 : Int32) (x4 : Int32) (x5 : Int32) (x6 : Int32) (σ : Mem), k47 x3 x4 x5 x6 σ → fw_At X G 8 (fw_QI X G post) 47 [(0, .ref (gad G 0)), (1, .int a1), (2, .int a2), (3, .int x3), (4, .int x4), (5, .int x5), (6, .int x6)] [] σ) {x3 : Int32} {x4 : Int32} {x5 : Int32} {x6 : Int32} {σ : Mem} (h : qX3_ask_B78 a1 a2 post k47 x3 x4 x5 x6 σ) : fw_At X G 8 (fw_QI X G post) 78 [(0, .ref (gad G 0)), (1, .int a1), (2, .int a2), (3, .int x3), (4, .int x4), (5, .int x5), (6, .int x6)] [] σ := by
  unfold qX3_ask_B78 at h
  refine fr_iinc (pc := 78) O 6 [1, 2, 3, 4, 5, 6, 0] (w := (1 : Int32)) (lvF := fun y6_78 => [(0, .ref (gad G 0)), (1, .int a1), (2, .int a2), (3, .int x3), (4, .int x4), (5, .int x5), (6, .int y6_78)]) dX3_ask_78 rfl (by decide) (by decide) (fun _ => rfl) (fun y6_78 e_y6_78 => ?_)
  have h := h y6_78 e_y6_78
  refine fr_goto (pc := 81) (tgt := 47) O dX3_ask_81 (by decide) ?_
  exact hk47 _ _ _ _ _ h
def qX3_ask_L47 (a1 : Int32) (a2 : Int32) (post : Int32 → Mem → Prop) (k47 : Int32 → Int32 → Int32 → Int32 → Mem → Prop) (x3 : Int32) (x4 : Int32) (x5 : Int32) (x6 : Int32) (σ : Mem) : Prop := (((40 : Int32) < x6 → ((x4 = (-4 : Int32) → qX3_ask_B95 a1 a2 post x4 σ) ∧ (¬ x4 = (-4 : Int32) → ((¬ a2 = 0 → qX3_ask_B102 a1 a2 post x5 σ) ∧ (a2 = 0 → qX3_ask_B95 a1 a2 post x4 σ))))) ∧ (¬ (40 : Int32) < x6 → (qX3_leftAtWorst x6 x3 σ (fun r58 σ58 => ((x5 ≤ r58 → qX3_ask_B78 a1 a2 post k47 x3 x4 x5 x6 σ58) ∧ (¬ x5 ≤ r58 → qX3_ask_B78 a1 a2 post k47 x3 x6 r58 x6 σ58))))))
set_option maxRecDepth 20000 in
theorem kX3_ask_L47 {X : Cx} {G : Gw} (hG : fw_IsC G) (O : fw_Ok X G cX3_ask 8 RX3 7 155 (some .int)) {a1 : Int32} {a2 : Int32} {post : Int32 → Mem → Prop} {k47 : Int32 → Int32 → Int32 → Int32 → Mem → Prop}  (hk47 : ∀ (x3 : Int32) (x4 : Int32) (x5 : Int32) (x6 : Int32) (σ : Mem), k47 x3 x4 x5 x6 σ → fw_At X G 8 (fw_QI X G post) 47 [(0, .ref (gad G 0)), (1, .int a1), (2, .int a2), (3, .int x3), (4, .int x4), (5, .int x5), (6, .int x6)] [] σ) {x3 : Int32} {x4 : Int32} {x5 : Int32} {x6 : Int32} {σ : Mem} (h : qX3_ask_L47 a1 a2 post k47 x3 x4 x5 x6 σ) : fw_At X G 8 (fw_QI X G post) 47 [(0, .ref (gad G 0)), (1, .int a1), (2, .int a2), (3, .int x3), (4, .int x4), (5, .int x5), (6, .int x6)] [] σ := by
  unfold qX3_ask_L47 at h
  refine fr_iload (pc := 47) O 6 dX3_ask_47 rfl ?_
  refine fr_bipush (pc := 49) O (v := (40 : Int32)) dX3_ask_49 (by decide) ?_
  refine fr_icmp_gt (pc := 51) (tgt := 84) O dX3_ask_51 (by decide) (fun c_51 => ?_) (fun c_51 => ?_)
  · have h := h.1 c_51
    refine fr_iload (pc := 84) O 4 dX3_ask_84 rfl ?_
    refine fr_bipush (pc := 86) O (v := (-4 : Int32)) dX3_ask_86 (by decide) ?_
    refine fr_icmp_eq (pc := 88) (tgt := 95) O dX3_ask_88 (by decide) (fun c_88 => ?_) (fun c_88 => ?_)
    · have h := h.1 c_88
      refine fw_sub (lv' := [(0, .ref (gad G 0)), (1, .int a1), (2, .int a2), (4, .int x4)]) [0, 1, 2, 4] rfl ?_
      exact kX3_ask_B95 hG O  h
    · have h := h.2 c_88
      refine fr_iload_n (pc := 91) O 2 dX3_ask_91 rfl rfl ?_
      refine fr_if_ne (pc := 92) (tgt := 100) O dX3_ask_92 (by decide) (fun c_92 => ?_) (fun c_92 => ?_)
      · have h := h.1 c_92
        refine fr_iload (pc := 100) O 5 dX3_ask_100 rfl ?_
        refine fw_sub (lv' := [(0, .ref (gad G 0)), (1, .int a1), (2, .int a2)]) [0, 1, 2] rfl ?_
        exact kX3_ask_B102 hG O  h
      · have h := h.2 c_92
        refine fw_sub (lv' := [(0, .ref (gad G 0)), (1, .int a1), (2, .int a2), (4, .int x4)]) [0, 1, 2, 4] rfl ?_
        exact kX3_ask_B95 hG O  h
  · have h := h.2 c_51
    refine fr_aload_n (pc := 54) O 0 dX3_ask_54 rfl rfl ?_
    refine fr_iload (pc := 55) O 6 dX3_ask_55 rfl ?_
    refine fr_iload_n (pc := 57) O 3 dX3_ask_57 rfl rfl ?_
    refine fr_callVI (pc := 58) (st := []) O (tX3_leftAtWorst X.2.1 hG  h) mt_X3_leftAtWorst mv_X3_leftAtWorst m_653 cl_X3 rfl (sC_0 hG) rfl (by decide) rfl (Nat.le_of_ble_eq_true rfl) dX3_ask_58 (fun r58 σ58 h => ?_)
    refine fr_istore (pc := 61) O [1, 2, 3, 4, 5, 6, 7, 0] (lv' := [(0, .ref (gad G 0)), (1, .int a1), (2, .int a2), (3, .int x3), (4, .int x4), (5, .int x5), (6, .int x6), (7, .int r58)]) dX3_ask_61 (by decide) rfl ?_
    refine fr_iload (pc := 63) O 7 dX3_ask_63 rfl ?_
    refine fr_iload (pc := 65) O 5 dX3_ask_65 rfl ?_
    refine fr_icmp_ge (pc := 67) (tgt := 78) O dX3_ask_67 (by decide) (fun c_67 => ?_) (fun c_67 => ?_)
    · have h := h.1 c_67
      refine fw_sub (lv' := [(0, .ref (gad G 0)), (1, .int a1), (2, .int a2), (3, .int x3), (4, .int x4), (5, .int x5), (6, .int x6)]) [0, 1, 2, 3, 4, 5, 6] rfl ?_
      exact kX3_ask_B78 hG O hk47 h
    · have h := h.2 c_67
      refine fr_iload (pc := 70) O 7 dX3_ask_70 rfl ?_
      refine fr_istore (pc := 72) O [1, 2, 3, 4, 5, 0, 6, 7] (lv' := [(0, .ref (gad G 0)), (1, .int a1), (2, .int a2), (3, .int x3), (4, .int x4), (5, .int r58), (6, .int x6), (7, .int r58)]) dX3_ask_72 (by decide) rfl ?_
      refine fr_iload (pc := 74) O 6 dX3_ask_74 rfl ?_
      refine fr_istore (pc := 76) O [1, 2, 3, 4, 0, 5, 6, 7] (lv' := [(0, .ref (gad G 0)), (1, .int a1), (2, .int a2), (3, .int x3), (4, .int x6), (5, .int r58), (6, .int x6), (7, .int r58)]) dX3_ask_76 (by decide) rfl ?_
      refine fw_sub (lv' := [(0, .ref (gad G 0)), (1, .int a1), (2, .int a2), (3, .int x3), (4, .int x6), (5, .int r58), (6, .int x6)]) [0, 1, 2, 3, 4, 5, 6] rfl ?_
      exact kX3_ask_B78 hG O hk47 h
set_option maxRecDepth 20000 in
theorem kX3_ask_L47w {X : Cx} {G : Gw} (hG : fw_IsC G) (O : fw_Ok X G cX3_ask 8 RX3 7 155 (some .int)) {a1 : Int32} {a2 : Int32} {post : Int32 → Mem → Prop}   {n9 : Nat} {x3 : Int32} {x4 : Int32} {x5 : Int32} {x6 : Int32} {σ : Mem} (h : it4 (qX3_ask_L47 a1 a2 post) n9 x3 x4 x5 x6 σ) : fw_At X G 8 (fw_QI X G post) 47 [(0, .ref (gad G 0)), (1, .int a1), (2, .int a2), (3, .int x3), (4, .int x4), (5, .int x5), (6, .int x6)] [] σ :=
  it4_walk (T := fun x3 x4 x5 x6 σ => fw_At X G 8 (fw_QI X G post) 47 [(0, .ref (gad G 0)), (1, .int a1), (2, .int a2), (3, .int x3), (4, .int x4), (5, .int x5), (6, .int x6)] [] σ) (fun k47 hk47 x3 x4 x5 x6 σ h => kX3_ask_L47 hG O hk47 h) n9 x3 x4 x5 x6 σ h
def qX3_ask (a1 : Int32) (a2 : Int32) (σ : Mem) (post : Int32 → Mem → Prop) : Prop := (qX0_hasWheel 1 a1 σ (fun r5 σ5 => ((r5 = 0 → qX3_ask_B20 a1 a2 post σ5) ∧ (¬ r5 = 0 → (qX3_within a2 (0 : Int32) (1 : Int32) σ5 (fun r14 σ14 => ((¬ r14 = 0 → (qX3_fittingLosses a1 σ14 (fun r24 σ24 => (qX3_lookAhead a1 r24 σ24 (fun σ31 => (qJ6_bitCount_0f7a4 r24 σ31 (fun r39 σ39 => ∃ n9, it4 (qX3_ask_L47 a1 a2 post) n9 r24 (-4 : Int32) r39 (0 : Int32) σ39))))))) ∧ (r14 = 0 → qX3_ask_B20 a1 a2 post σ14))))))))
set_option maxRecDepth 20000 in
theorem kX3_ask {X : Cx} {G : Gw} (hG : fw_IsC G) (O : fw_Ok X G cX3_ask 8 RX3 7 155 (some .int)) {a1 : Int32} {a2 : Int32}  {σ : Mem} {post : Int32 → Mem → Prop} (h : qX3_ask a1 a2 σ post) : fw_At X G 8 (fw_QI X G post) 0 [(0, .ref (gad G 0)), (1, .int a1), (2, .int a2)] [] σ := by
  unfold qX3_ask at h
  refine fr_aload_n (pc := 0) O 0 dX3_ask_0 rfl rfl ?_
  refine fr_get (pc := 1) (k := 0) (v := .ref (gad G 1)) O cl_X3 m_190 (sC_0 hG) (by decide) rfl rfl dX3_ask_1 ?_
  refine fr_iload_n (pc := 4) O 1 dX3_ask_4 rfl rfl ?_
  refine fr_callVI (pc := 5) (st := []) O (tX0_hasWheel X.2.1 hG rg_1 h) mt_X0_hasWheel mv_X0_hasWheel m_417 cl_X0 rfl (sC_rig hG rg_1) rfl (by decide) rfl (Nat.le_of_ble_eq_true rfl) dX3_ask_5 (fun r5 σ5 h => ?_)
  refine fr_if_eq (pc := 8) (tgt := 20) O dX3_ask_8 (by decide) (fun c_8 => ?_) (fun c_8 => ?_)
  · have h := h.1 c_8
    exact kX3_ask_B20 hG O  h
  · have h := h.2 c_8
    refine fr_iload_n (pc := 11) O 2 dX3_ask_11 rfl rfl ?_
    refine fr_iconst (pc := 12) O (v := (0 : Int32)) dX3_ask_12 (by decide) ?_
    refine fr_iconst (pc := 13) O (v := (1 : Int32)) dX3_ask_13 (by decide) ?_
    refine fr_callSI (pc := 14) (st := []) O (tX3_within X.2.1 hG  h) mt_X3_within m_238 m_237 rfl (by decide) rfl (Nat.le_of_ble_eq_true rfl) dX3_ask_14 (fun r14 σ14 h => ?_)
    refine fr_if_ne (pc := 17) (tgt := 22) O dX3_ask_17 (by decide) (fun c_17 => ?_) (fun c_17 => ?_)
    · have h := h.1 c_17
      refine fr_aload_n (pc := 22) O 0 dX3_ask_22 rfl rfl ?_
      refine fr_iload_n (pc := 23) O 1 dX3_ask_23 rfl rfl ?_
      refine fr_callVI (pc := 24) (st := []) O (tX3_fittingLosses X.2.1 hG  h) mt_X3_fittingLosses mv_X3_fittingLosses m_635 cl_X3 rfl (sC_0 hG) rfl (by decide) rfl (Nat.le_of_ble_eq_true rfl) dX3_ask_24 (fun r24 σ24 h => ?_)
      refine fr_istore_n (pc := 27) O [1, 2, 3, 0] (lv' := [(0, .ref (gad G 0)), (1, .int a1), (2, .int a2), (3, .int r24)]) dX3_ask_27 rfl (by decide) rfl ?_
      refine fr_aload_n (pc := 28) O 0 dX3_ask_28 rfl rfl ?_
      refine fr_iload_n (pc := 29) O 1 dX3_ask_29 rfl rfl ?_
      refine fr_iload_n (pc := 30) O 3 dX3_ask_30 rfl rfl ?_
      refine fr_callVV (pc := 31) (st := []) O (tX3_lookAhead X.2.1 hG  h) mt_X3_lookAhead mv_X3_lookAhead m_643 cl_X3 rfl (sC_0 hG) rfl (by decide) rfl (Nat.le_of_ble_eq_true rfl) dX3_ask_31 (fun σ31 h => ?_)
      refine fr_bipush (pc := 34) O (v := (-4 : Int32)) dX3_ask_34 (by decide) ?_
      refine fr_istore (pc := 36) O [1, 2, 3, 4, 0] (lv' := [(0, .ref (gad G 0)), (1, .int a1), (2, .int a2), (3, .int r24), (4, .int (-4 : Int32))]) dX3_ask_36 (by decide) rfl ?_
      refine fr_iload_n (pc := 38) O 3 dX3_ask_38 rfl rfl ?_
      refine fr_callSI (pc := 39) (st := []) O (tJ6_bitCount_0f7a4 X.2.1 hG  h) mt_J6_bitCount_0f7a4 m_648 m_647 rfl (by decide) rfl (Nat.le_of_ble_eq_true rfl) dX3_ask_39 (fun r39 σ39 h => ?_)
      refine fr_istore (pc := 42) O [1, 2, 3, 4, 5, 0] (lv' := [(0, .ref (gad G 0)), (1, .int a1), (2, .int a2), (3, .int r24), (4, .int (-4 : Int32)), (5, .int r39)]) dX3_ask_42 (by decide) rfl ?_
      refine fr_iconst (pc := 44) O (v := (0 : Int32)) dX3_ask_44 (by decide) ?_
      refine fr_istore (pc := 45) O [1, 2, 3, 4, 5, 6, 0] (lv' := [(0, .ref (gad G 0)), (1, .int a1), (2, .int a2), (3, .int r24), (4, .int (-4 : Int32)), (5, .int r39), (6, .int (0 : Int32))]) dX3_ask_45 (by decide) rfl ?_
      obtain ⟨n9, h⟩ := h
      exact kX3_ask_L47w hG O  h
    · have h := h.2 c_17
      exact kX3_ask_B20 hG O  h
theorem tX3_ask (l : Launch) {G : Gw} (hG : fw_IsC G) {a1 : Int32} {a2 : Int32}  {σ : Mem} {post : Int32 → Mem → Prop} (h : qX3_ask a1 a2 σ post) : fw_CI l G yX3_ask cX3_ask 8 .int 7 155 [.ref (gad G 0), .int a1, .int a2] σ post := fw_ofI (sok_C hG) (by decide) (Nat.le_of_ble_eq_true rfl) (fun X O => kX3_ask hG O  h)
def qX3_drift_B20 (a1 : Int32) (a2 : Int32) (a3 : Int32) (post : Int32 → Mem → Prop) (σ : Mem) : Prop := post (-1 : Int32) σ
set_option maxRecDepth 20000 in
theorem kX3_drift_B20 {X : Cx} {G : Gw} (hG : fw_IsC G) (O : fw_Ok X G cX3_drift 7 RX3 5 110 (some .int)) {a1 : Int32} {a2 : Int32} {a3 : Int32} {post : Int32 → Mem → Prop}    {σ : Mem} (h : qX3_drift_B20 a1 a2 a3 post σ) : fw_At X G 7 (fw_QI X G post) 20 [(0, .ref (gad G 0)), (1, .int a1), (2, .int a2), (3, .int a3)] [] σ := by
  unfold qX3_drift_B20 at h
  refine fr_iconst (pc := 20) O (v := (-1 : Int32)) dX3_drift_20 (by decide) ?_
  exact fr_iret (pc := 21) O dX3_drift_21 h
def qX3_drift_B120 (a1 : Int32) (a2 : Int32) (a3 : Int32) (post : Int32 → Mem → Prop) (s0 : Int32) (σ : Mem) : Prop := post s0 σ
set_option maxRecDepth 20000 in
theorem kX3_drift_B120 {X : Cx} {G : Gw} (hG : fw_IsC G) (O : fw_Ok X G cX3_drift 7 RX3 5 110 (some .int)) {a1 : Int32} {a2 : Int32} {a3 : Int32} {post : Int32 → Mem → Prop}   {s0 : Int32} {σ : Mem} (h : qX3_drift_B120 a1 a2 a3 post s0 σ) : fw_At X G 7 (fw_QI X G post) 120 [(0, .ref (gad G 0)), (1, .int a1), (2, .int a2), (3, .int a3)] [.int s0] σ := by
  unfold qX3_drift_B120 at h
  exact fr_iret (pc := 120) O dX3_drift_120 h
def qX3_drift_L52 (a1 : Int32) (a2 : Int32) (a3 : Int32) (post : Int32 → Mem → Prop) (k52 : Int32 → Int32 → Mem → Prop) (x4 : Int32) (x5 : Int32) (σ : Mem) : Prop := ((a2 ≤ x5 → ((¬ a3 = 0 → (qX0_allSwing 7 σ (fun r117 σ117 => qX3_drift_B120 a1 a2 a3 post r117 σ117))) ∧ (a3 = 0 → qX3_drift_B120 a1 a2 a3 post (σ 7 10) σ))) ∧ (¬ a2 ≤ x5 → (∀ y4_67 : Int32, y4_67 = (x4 * (1103515245 : Int32)) + (12345 : Int32) → (∀ y6_78 : Int32, y6_78 = ((y4_67.toUInt32 >>> ((16 : Int32).toUInt32 &&& Int32.toUInt32 31)).toInt32) &&& (32767 : Int32) → (¬ (204 : Int32) = 0 ∧ (qX0_passTick 7 (y6_78 - y6_78 / (204 : Int32) * (204 : Int32)) σ (fun σ90 => (∀ y5_93 : Int32, y5_93 = x5 + (1 : Int32) → k52 y4_67 y5_93 σ90))))))))
set_option maxRecDepth 20000 in
theorem kX3_drift_L52 {X : Cx} {G : Gw} (hG : fw_IsC G) (O : fw_Ok X G cX3_drift 7 RX3 5 110 (some .int)) {a1 : Int32} {a2 : Int32} {a3 : Int32} {post : Int32 → Mem → Prop} {k52 : Int32 → Int32 → Mem → Prop}  (hk52 : ∀ (x4 : Int32) (x5 : Int32) (σ : Mem), k52 x4 x5 σ → fw_At X G 7 (fw_QI X G post) 52 [(0, .ref (gad G 0)), (1, .int a1), (2, .int a2), (3, .int a3), (4, .int x4), (5, .int x5)] [] σ) {x4 : Int32} {x5 : Int32} {σ : Mem} (h : qX3_drift_L52 a1 a2 a3 post k52 x4 x5 σ) : fw_At X G 7 (fw_QI X G post) 52 [(0, .ref (gad G 0)), (1, .int a1), (2, .int a2), (3, .int a3), (4, .int x4), (5, .int x5)] [] σ := by
  unfold qX3_drift_L52 at h
  refine fr_iload (pc := 52) O 5 dX3_drift_52 rfl ?_
  refine fr_iload_n (pc := 54) O 2 dX3_drift_54 rfl rfl ?_
  refine fr_icmp_ge (pc := 55) (tgt := 99) O dX3_drift_55 (by decide) (fun c_55 => ?_) (fun c_55 => ?_)
  · have h := h.1 c_55
    refine fr_iload_n (pc := 99) O 3 dX3_drift_99 rfl rfl ?_
    refine fr_if_ne (pc := 100) (tgt := 113) O dX3_drift_100 (by decide) (fun c_100 => ?_) (fun c_100 => ?_)
    · have h := h.1 c_100
      refine fr_aload_n (pc := 113) O 0 dX3_drift_113 rfl rfl ?_
      refine fr_get (pc := 114) (k := 1) (v := .ref (gad G 7)) O cl_X3 m_191 (sC_0 hG) (by decide) rfl rfl dX3_drift_114 ?_
      refine fr_callVI (pc := 117) (st := []) O (tX0_allSwing X.2.1 hG rg_7 h) mt_X0_allSwing mv_X0_allSwing m_520 cl_X0 rfl (sC_rig hG rg_7) rfl (by decide) rfl (Nat.le_of_ble_eq_true rfl) dX3_drift_117 (fun r117 σ117 h => ?_)
      refine fw_sub (lv' := [(0, .ref (gad G 0)), (1, .int a1), (2, .int a2), (3, .int a3)]) [0, 1, 2, 3] rfl ?_
      exact kX3_drift_B120 hG O  h
    · have h := h.2 c_100
      refine fr_aload_n (pc := 103) O 0 dX3_drift_103 rfl rfl ?_
      refine fr_get (pc := 104) (k := 1) (v := .ref (gad G 7)) O cl_X3 m_191 (sC_0 hG) (by decide) rfl rfl dX3_drift_104 ?_
      refine fr_get (pc := 107) (k := 10) (v := .int (σ 7 10)) O cl_X0 m_98 (sC_rig hG rg_7) (by decide) rfl rfl dX3_drift_107 ?_
      refine fr_goto (pc := 110) (tgt := 120) O dX3_drift_110 (by decide) ?_
      refine fw_sub (lv' := [(0, .ref (gad G 0)), (1, .int a1), (2, .int a2), (3, .int a3)]) [0, 1, 2, 3] rfl ?_
      exact kX3_drift_B120 hG O  h
  · have h := h.2 c_55
    refine fr_iload (pc := 58) O 4 dX3_drift_58 rfl ?_
    refine fr_ldc (pc := 60) O m_665 dX3_drift_60 ?_
    refine fr_imul (pc := 62) O dX3_drift_62 ?_
    refine fr_sipush (pc := 63) O (v := (12345 : Int32)) dX3_drift_63 (by decide) ?_
    refine fr_iadd (pc := 66) O dX3_drift_66 ?_
    refine fr_nm (fun y4_67 e_y4_67 => ?_)
    have h := h y4_67 e_y4_67
    refine fr_istore (pc := 67) O [1, 2, 3, 4, 0, 5] (lv' := [(0, .ref (gad G 0)), (1, .int a1), (2, .int a2), (3, .int a3), (4, .int y4_67), (5, .int x5)]) dX3_drift_67 (by decide) rfl ?_
    refine fr_iload (pc := 69) O 4 dX3_drift_69 rfl ?_
    refine fr_bipush (pc := 71) O (v := (16 : Int32)) dX3_drift_71 (by decide) ?_
    refine fr_iushr (pc := 73) O dX3_drift_73 ?_
    refine fr_sipush (pc := 74) O (v := (32767 : Int32)) dX3_drift_74 (by decide) ?_
    refine fr_iand (pc := 77) O dX3_drift_77 ?_
    refine fr_nm (fun y6_78 e_y6_78 => ?_)
    have h := h y6_78 e_y6_78
    refine fr_istore (pc := 78) O [1, 2, 3, 4, 5, 6, 0] (lv' := [(0, .ref (gad G 0)), (1, .int a1), (2, .int a2), (3, .int a3), (4, .int y4_67), (5, .int x5), (6, .int y6_78)]) dX3_drift_78 (by decide) rfl ?_
    refine fr_aload_n (pc := 80) O 0 dX3_drift_80 rfl rfl ?_
    refine fr_get (pc := 81) (k := 1) (v := .ref (gad G 7)) O cl_X3 m_191 (sC_0 hG) (by decide) rfl rfl dX3_drift_81 ?_
    refine fr_iload (pc := 84) O 6 dX3_drift_84 rfl ?_
    refine fr_sipush (pc := 86) O (v := (204 : Int32)) dX3_drift_86 (by decide) ?_
    refine fr_irem (pc := 89) O h.1 dX3_drift_89 ?_
    have h := h.2
    refine fr_callVV (pc := 90) (st := []) O (tX0_passTick X.2.1 hG rg_7 h) mt_X0_passTick mv_X0_passTick m_518 cl_X0 rfl (sC_rig hG rg_7) rfl (by decide) rfl (Nat.le_of_ble_eq_true rfl) dX3_drift_90 (fun σ90 h => ?_)
    refine fr_iinc (pc := 93) O 5 [1, 2, 3, 4, 5, 0, 6] (w := (1 : Int32)) (lvF := fun y5_93 => [(0, .ref (gad G 0)), (1, .int a1), (2, .int a2), (3, .int a3), (4, .int y4_67), (5, .int y5_93), (6, .int y6_78)]) dX3_drift_93 rfl (by decide) (by decide) (fun _ => rfl) (fun y5_93 e_y5_93 => ?_)
    have h := h y5_93 e_y5_93
    refine fr_goto (pc := 96) (tgt := 52) O dX3_drift_96 (by decide) ?_
    refine fw_sub (lv' := [(0, .ref (gad G 0)), (1, .int a1), (2, .int a2), (3, .int a3), (4, .int y4_67), (5, .int y5_93)]) [0, 1, 2, 3, 4, 5] rfl ?_
    exact hk52 _ _ _ h
set_option maxRecDepth 20000 in
theorem kX3_drift_L52w {X : Cx} {G : Gw} (hG : fw_IsC G) (O : fw_Ok X G cX3_drift 7 RX3 5 110 (some .int)) {a1 : Int32} {a2 : Int32} {a3 : Int32} {post : Int32 → Mem → Prop}   {n9 : Nat} {x4 : Int32} {x5 : Int32} {σ : Mem} (h : it2 (qX3_drift_L52 a1 a2 a3 post) n9 x4 x5 σ) : fw_At X G 7 (fw_QI X G post) 52 [(0, .ref (gad G 0)), (1, .int a1), (2, .int a2), (3, .int a3), (4, .int x4), (5, .int x5)] [] σ :=
  it2_walk (T := fun x4 x5 σ => fw_At X G 7 (fw_QI X G post) 52 [(0, .ref (gad G 0)), (1, .int a1), (2, .int a2), (3, .int a3), (4, .int x4), (5, .int x5)] [] σ) (fun k52 hk52 x4 x5 σ h => kX3_drift_L52 hG O hk52 h) n9 x4 x5 σ h
def qX3_drift (a1 : Int32) (a2 : Int32) (a3 : Int32) (σ : Mem) (post : Int32 → Mem → Prop) : Prop := (qX3_within a2 (1 : Int32) (200 : Int32) σ (fun r5 σ5 => ((r5 = 0 → qX3_drift_B20 a1 a2 a3 post σ5) ∧ (¬ r5 = 0 → (qX3_within a3 (0 : Int32) (1 : Int32) σ5 (fun r14 σ14 => ((¬ r14 = 0 → ((¬ (σ14 1 2) = 0 → (qX0_startAs 7 1 σ14 (fun σ43 => ∃ n9, it2 (qX3_drift_L52 a1 a2 a3 post) n9 a1 (0 : Int32) σ43))) ∧ ((σ14 1 2) = 0 → post (-2 : Int32) σ14))) ∧ (r14 = 0 → qX3_drift_B20 a1 a2 a3 post σ14))))))))
set_option maxRecDepth 20000 in
theorem kX3_drift {X : Cx} {G : Gw} (hG : fw_IsC G) (O : fw_Ok X G cX3_drift 7 RX3 5 110 (some .int)) {a1 : Int32} {a2 : Int32} {a3 : Int32}  {σ : Mem} {post : Int32 → Mem → Prop} (h : qX3_drift a1 a2 a3 σ post) : fw_At X G 7 (fw_QI X G post) 0 [(0, .ref (gad G 0)), (1, .int a1), (2, .int a2), (3, .int a3)] [] σ := by
  unfold qX3_drift at h
  refine fr_iload_n (pc := 0) O 2 dX3_drift_0 rfl rfl ?_
  refine fr_iconst (pc := 1) O (v := (1 : Int32)) dX3_drift_1 (by decide) ?_
  refine fr_sipush (pc := 2) O (v := (200 : Int32)) dX3_drift_2 (by decide) ?_
  refine fr_callSI (pc := 5) (st := []) O (tX3_within X.2.1 hG  h) mt_X3_within m_238 m_237 rfl (by decide) rfl (Nat.le_of_ble_eq_true rfl) dX3_drift_5 (fun r5 σ5 h => ?_)
  refine fr_if_eq (pc := 8) (tgt := 20) O dX3_drift_8 (by decide) (fun c_8 => ?_) (fun c_8 => ?_)
  · have h := h.1 c_8
    exact kX3_drift_B20 hG O  h
  · have h := h.2 c_8
    refine fr_iload_n (pc := 11) O 3 dX3_drift_11 rfl rfl ?_
    refine fr_iconst (pc := 12) O (v := (0 : Int32)) dX3_drift_12 (by decide) ?_
    refine fr_iconst (pc := 13) O (v := (1 : Int32)) dX3_drift_13 (by decide) ?_
    refine fr_callSI (pc := 14) (st := []) O (tX3_within X.2.1 hG  h) mt_X3_within m_238 m_237 rfl (by decide) rfl (Nat.le_of_ble_eq_true rfl) dX3_drift_14 (fun r14 σ14 h => ?_)
    refine fr_if_ne (pc := 17) (tgt := 22) O dX3_drift_17 (by decide) (fun c_17 => ?_) (fun c_17 => ?_)
    · have h := h.1 c_17
      refine fr_aload_n (pc := 22) O 0 dX3_drift_22 rfl rfl ?_
      refine fr_get (pc := 23) (k := 0) (v := .ref (gad G 1)) O cl_X3 m_190 (sC_0 hG) (by decide) rfl rfl dX3_drift_23 ?_
      refine fr_get (pc := 26) (k := 2) (v := .int (σ14 1 2)) O cl_X0 m_80 (sC_rig hG rg_1) (by decide) rfl rfl dX3_drift_26 ?_
      refine fr_if_ne (pc := 29) (tgt := 35) O dX3_drift_29 (by decide) (fun c_29 => ?_) (fun c_29 => ?_)
      · have h := h.1 c_29
        refine fr_aload_n (pc := 35) O 0 dX3_drift_35 rfl rfl ?_
        refine fr_get (pc := 36) (k := 1) (v := .ref (gad G 7)) O cl_X3 m_191 (sC_0 hG) (by decide) rfl rfl dX3_drift_36 ?_
        refine fr_aload_n (pc := 39) O 0 dX3_drift_39 rfl rfl ?_
        refine fr_get (pc := 40) (k := 0) (v := .ref (gad G 1)) O cl_X3 m_190 (sC_0 hG) (by decide) rfl rfl dX3_drift_40 ?_
        refine fr_callVV (pc := 43) (st := []) O (tX0_startAs X.2.1 hG rg_7 rg_1 h) mt_X0_startAs mv_X0_startAs m_513 cl_X0 rfl (sC_rig hG rg_7) rfl (by decide) rfl (Nat.le_of_ble_eq_true rfl) dX3_drift_43 (fun σ43 h => ?_)
        refine fr_iload_n (pc := 46) O 1 dX3_drift_46 rfl rfl ?_
        refine fr_istore (pc := 47) O [1, 2, 3, 4, 0] (lv' := [(0, .ref (gad G 0)), (1, .int a1), (2, .int a2), (3, .int a3), (4, .int a1)]) dX3_drift_47 (by decide) rfl ?_
        refine fr_iconst (pc := 49) O (v := (0 : Int32)) dX3_drift_49 (by decide) ?_
        refine fr_istore (pc := 50) O [1, 2, 3, 4, 5, 0] (lv' := [(0, .ref (gad G 0)), (1, .int a1), (2, .int a2), (3, .int a3), (4, .int a1), (5, .int (0 : Int32))]) dX3_drift_50 (by decide) rfl ?_
        obtain ⟨n9, h⟩ := h
        exact kX3_drift_L52w hG O  h
      · have h := h.2 c_29
        refine fr_bipush (pc := 32) O (v := (-2 : Int32)) dX3_drift_32 (by decide) ?_
        exact fr_iret (pc := 34) O dX3_drift_34 h
    · have h := h.2 c_17
      exact kX3_drift_B20 hG O  h
theorem tX3_drift (l : Launch) {G : Gw} (hG : fw_IsC G) {a1 : Int32} {a2 : Int32} {a3 : Int32}  {σ : Mem} {post : Int32 → Mem → Prop} (h : qX3_drift a1 a2 a3 σ post) : fw_CI l G yX3_drift cX3_drift 7 .int 5 110 [.ref (gad G 0), .int a1, .int a2, .int a3] σ post := fw_ofI (sok_C hG) (by decide) (Nat.le_of_ble_eq_true rfl) (fun X O => kX3_drift hG O  h)
def qX3_keep_B25 (a1 : Int32) (post : Int32 → Mem → Prop) (s0 : Int32) (σ : Mem) : Prop := (vp_in a1 2 ∧ (qX0_become (19 + 6 * a1.toNatClampNeg) 1 σ (fun σ36 => (∀ σ45 : Mem, σ45 = up2 σ36 32 a1.toNatClampNeg (1 : Int32) → post s0 σ45))))
set_option maxRecDepth 20000 in
theorem kX3_keep_B25 {X : Cx} {G : Gw} (hG : fw_IsC G) (O : fw_Ok X G cX3_keep 3 RX3 1 22 (some .int)) {a1 : Int32} {post : Int32 → Mem → Prop}   {s0 : Int32} {σ : Mem} (h : qX3_keep_B25 a1 post s0 σ) : fw_At X G 3 (fw_QI X G post) 25 [(0, .ref (gad G 0)), (1, .int a1)] [.int s0] σ := by
  unfold qX3_keep_B25 at h
  refine fr_istore_n (pc := 25) O [1, 2, 0] (lv' := [(0, .ref (gad G 0)), (1, .int a1), (2, .int s0)]) dX3_keep_25 rfl (by decide) rfl ?_
  refine fr_aload_n (pc := 26) O 0 dX3_keep_26 rfl rfl ?_
  refine fr_get (pc := 27) (k := 3) (v := .ref (gad G 31)) O cl_X3 m_193 (sC_0 hG) (by decide) rfl rfl dX3_keep_27 ?_
  refine fr_iload_n (pc := 30) O 1 dX3_keep_30 rfl rfl ?_
  have hi_31 := h.1
  have h := h.2
  have hr_31 := rig_of hi_31
  refine fr_aald (pc := 31) O (sC_31 hG) hi_31 dX3_keep_31 ?_
  refine fr_aload_n (pc := 32) O 0 dX3_keep_32 rfl rfl ?_
  refine fr_get (pc := 33) (k := 0) (v := .ref (gad G 1)) O cl_X3 m_190 (sC_0 hG) (by decide) rfl rfl dX3_keep_33 ?_
  refine fr_callVV (pc := 36) (st := []) O (tX0_become X.2.1 hG hr_31 rg_1 h) mt_X0_become mv_X0_become m_385 cl_X0 rfl (sC_rig hG hr_31) rfl (by decide) rfl (Nat.le_of_ble_eq_true rfl) dX3_keep_36 (fun σ36 h => ?_)
  refine fr_aload_n (pc := 39) O 0 dX3_keep_39 rfl rfl ?_
  refine fr_get (pc := 40) (k := 4) (v := .ref (gad G 32)) O cl_X3 m_194 (sC_0 hG) (by decide) rfl rfl dX3_keep_40 ?_
  refine fr_iload_n (pc := 43) O 1 dX3_keep_43 rfl rfl ?_
  refine fr_iconst (pc := 44) O (v := (1 : Int32)) dX3_keep_44 (by decide) ?_
  refine fr_zast (pc := 45) O (sC_32 hG) hi_31 isB_1 dX3_keep_45 (fun σ45 e_σ45 => ?_)
  have h := h σ45 e_σ45
  refine fr_iload_n (pc := 46) O 2 dX3_keep_46 rfl rfl ?_
  exact fr_iret (pc := 47) O dX3_keep_47 h
def qX3_keep (a1 : Int32) (σ : Mem) (post : Int32 → Mem → Prop) : Prop := (qX3_within a1 (0 : Int32) (1 : Int32) σ (fun r3 σ3 => ((¬ r3 = 0 → (vp_in a1 2 ∧ (((σ3 32 a1.toNatClampNeg) = 0 → qX3_keep_B25 a1 post (0 : Int32) σ3) ∧ (¬ (σ3 32 a1.toNatClampNeg) = 0 → qX3_keep_B25 a1 post (1 : Int32) σ3)))) ∧ (r3 = 0 → post (-1 : Int32) σ3))))
set_option maxRecDepth 20000 in
theorem kX3_keep {X : Cx} {G : Gw} (hG : fw_IsC G) (O : fw_Ok X G cX3_keep 3 RX3 1 22 (some .int)) {a1 : Int32}  {σ : Mem} {post : Int32 → Mem → Prop} (h : qX3_keep a1 σ post) : fw_At X G 3 (fw_QI X G post) 0 [(0, .ref (gad G 0)), (1, .int a1)] [] σ := by
  unfold qX3_keep at h
  refine fr_iload_n (pc := 0) O 1 dX3_keep_0 rfl rfl ?_
  refine fr_iconst (pc := 1) O (v := (0 : Int32)) dX3_keep_1 (by decide) ?_
  refine fr_iconst (pc := 2) O (v := (1 : Int32)) dX3_keep_2 (by decide) ?_
  refine fr_callSI (pc := 3) (st := []) O (tX3_within X.2.1 hG  h) mt_X3_within m_238 m_237 rfl (by decide) rfl (Nat.le_of_ble_eq_true rfl) dX3_keep_3 (fun r3 σ3 h => ?_)
  refine fr_if_ne (pc := 6) (tgt := 11) O dX3_keep_6 (by decide) (fun c_6 => ?_) (fun c_6 => ?_)
  · have h := h.1 c_6
    refine fr_aload_n (pc := 11) O 0 dX3_keep_11 rfl rfl ?_
    refine fr_get (pc := 12) (k := 4) (v := .ref (gad G 32)) O cl_X3 m_194 (sC_0 hG) (by decide) rfl rfl dX3_keep_12 ?_
    refine fr_iload_n (pc := 15) O 1 dX3_keep_15 rfl rfl ?_
    have hi_16 := h.1
    have h := h.2
    refine fr_zald (pc := 16) O (sC_32 hG) hi_16 dX3_keep_16 ?_
    refine fr_if_eq (pc := 17) (tgt := 24) O dX3_keep_17 (by decide) (fun c_17 => ?_) (fun c_17 => ?_)
    · have h := h.1 c_17
      refine fr_iconst (pc := 24) O (v := (0 : Int32)) dX3_keep_24 (by decide) ?_
      exact kX3_keep_B25 hG O  h
    · have h := h.2 c_17
      refine fr_iconst (pc := 20) O (v := (1 : Int32)) dX3_keep_20 (by decide) ?_
      refine fr_goto (pc := 21) (tgt := 25) O dX3_keep_21 (by decide) ?_
      exact kX3_keep_B25 hG O  h
  · have h := h.2 c_6
    refine fr_iconst (pc := 9) O (v := (-1 : Int32)) dX3_keep_9 (by decide) ?_
    exact fr_iret (pc := 10) O dX3_keep_10 h
theorem tX3_keep (l : Launch) {G : Gw} (hG : fw_IsC G) {a1 : Int32}  {σ : Mem} {post : Int32 → Mem → Prop} (h : qX3_keep a1 σ post) : fw_CI l G yX3_keep cX3_keep 3 .int 1 22 [.ref (gad G 0), .int a1] σ post := fw_ofI (sok_C hG) (by decide) (Nat.le_of_ble_eq_true rfl) (fun X O => kX3_keep hG O  h)
def qX3_back (a1 : Int32) (σ : Mem) (post : Int32 → Mem → Prop) : Prop := (qX3_within a1 (0 : Int32) (1 : Int32) σ (fun r3 σ3 => ((¬ r3 = 0 → (vp_in a1 2 ∧ ((¬ (σ3 32 a1.toNatClampNeg) = 0 → (qX0_become 1 (19 + 6 * a1.toNatClampNeg) σ3 (fun σ33 => post (σ33 1 9) σ33))) ∧ ((σ3 32 a1.toNatClampNeg) = 0 → post (-2 : Int32) σ3)))) ∧ (r3 = 0 → post (-1 : Int32) σ3))))
set_option maxRecDepth 20000 in
theorem kX3_back {X : Cx} {G : Gw} (hG : fw_IsC G) (O : fw_Ok X G cX3_back 2 RX3 1 22 (some .int)) {a1 : Int32}  {σ : Mem} {post : Int32 → Mem → Prop} (h : qX3_back a1 σ post) : fw_At X G 2 (fw_QI X G post) 0 [(0, .ref (gad G 0)), (1, .int a1)] [] σ := by
  unfold qX3_back at h
  refine fr_iload_n (pc := 0) O 1 dX3_back_0 rfl rfl ?_
  refine fr_iconst (pc := 1) O (v := (0 : Int32)) dX3_back_1 (by decide) ?_
  refine fr_iconst (pc := 2) O (v := (1 : Int32)) dX3_back_2 (by decide) ?_
  refine fr_callSI (pc := 3) (st := []) O (tX3_within X.2.1 hG  h) mt_X3_within m_238 m_237 rfl (by decide) rfl (Nat.le_of_ble_eq_true rfl) dX3_back_3 (fun r3 σ3 h => ?_)
  refine fr_if_ne (pc := 6) (tgt := 11) O dX3_back_6 (by decide) (fun c_6 => ?_) (fun c_6 => ?_)
  · have h := h.1 c_6
    refine fr_aload_n (pc := 11) O 0 dX3_back_11 rfl rfl ?_
    refine fr_get (pc := 12) (k := 4) (v := .ref (gad G 32)) O cl_X3 m_194 (sC_0 hG) (by decide) rfl rfl dX3_back_12 ?_
    refine fr_iload_n (pc := 15) O 1 dX3_back_15 rfl rfl ?_
    have hi_16 := h.1
    have h := h.2
    refine fr_zald (pc := 16) O (sC_32 hG) hi_16 dX3_back_16 ?_
    refine fr_if_ne (pc := 17) (tgt := 23) O dX3_back_17 (by decide) (fun c_17 => ?_) (fun c_17 => ?_)
    · have h := h.1 c_17
      refine fr_aload_n (pc := 23) O 0 dX3_back_23 rfl rfl ?_
      refine fr_get (pc := 24) (k := 0) (v := .ref (gad G 1)) O cl_X3 m_190 (sC_0 hG) (by decide) rfl rfl dX3_back_24 ?_
      refine fr_aload_n (pc := 27) O 0 dX3_back_27 rfl rfl ?_
      refine fr_get (pc := 28) (k := 3) (v := .ref (gad G 31)) O cl_X3 m_193 (sC_0 hG) (by decide) rfl rfl dX3_back_28 ?_
      refine fr_iload_n (pc := 31) O 1 dX3_back_31 rfl rfl ?_
      have hr_32 := rig_of hi_16
      refine fr_aald (pc := 32) O (sC_31 hG) hi_16 dX3_back_32 ?_
      refine fr_callVV (pc := 33) (st := []) O (tX0_become X.2.1 hG rg_1 hr_32 h) mt_X0_become mv_X0_become m_385 cl_X0 rfl (sC_rig hG rg_1) rfl (by decide) rfl (Nat.le_of_ble_eq_true rfl) dX3_back_33 (fun σ33 h => ?_)
      refine fr_aload_n (pc := 36) O 0 dX3_back_36 rfl rfl ?_
      refine fr_get (pc := 37) (k := 0) (v := .ref (gad G 1)) O cl_X3 m_190 (sC_0 hG) (by decide) rfl rfl dX3_back_37 ?_
      refine fr_get (pc := 40) (k := 9) (v := .int (σ33 1 9)) O cl_X0 m_96 (sC_rig hG rg_1) (by decide) rfl rfl dX3_back_40 ?_
      exact fr_iret (pc := 43) O dX3_back_43 h
    · have h := h.2 c_17
      refine fr_bipush (pc := 20) O (v := (-2 : Int32)) dX3_back_20 (by decide) ?_
      exact fr_iret (pc := 22) O dX3_back_22 h
  · have h := h.2 c_6
    refine fr_iconst (pc := 9) O (v := (-1 : Int32)) dX3_back_9 (by decide) ?_
    exact fr_iret (pc := 10) O dX3_back_10 h
theorem tX3_back (l : Launch) {G : Gw} (hG : fw_IsC G) {a1 : Int32}  {σ : Mem} {post : Int32 → Mem → Prop} (h : qX3_back a1 σ post) : fw_CI l G yX3_back cX3_back 2 .int 1 22 [.ref (gad G 0), .int a1] σ post := fw_ofI (sok_C hG) (by decide) (Nat.le_of_ble_eq_true rfl) (fun X O => kX3_back hG O  h)
def qX3_sheet_B24 (a1 : Int32) (a2 : Int32) (a3 : Int32) (post : Int32 → Mem → Prop) (σ : Mem) : Prop := post (-1 : Int32) σ
set_option maxRecDepth 20000 in
theorem kX3_sheet_B24 {X : Cx} {G : Gw} (hG : fw_IsC G) (O : fw_Ok X G cX3_sheet 4 RX3 1 23 (some .int)) {a1 : Int32} {a2 : Int32} {a3 : Int32} {post : Int32 → Mem → Prop}    {σ : Mem} (h : qX3_sheet_B24 a1 a2 a3 post σ) : fw_At X G 4 (fw_QI X G post) 24 [(0, .ref (gad G 0)), (1, .int a1), (2, .int a2), (3, .int a3)] [] σ := by
  unfold qX3_sheet_B24 at h
  refine fr_iconst (pc := 24) O (v := (-1 : Int32)) dX3_sheet_24 (by decide) ?_
  exact fr_iret (pc := 25) O dX3_sheet_25 h
def qX3_sheet (a1 : Int32) (a2 : Int32) (a3 : Int32) (σ : Mem) (post : Int32 → Mem → Prop) : Prop := (qX3_within a1 (0 : Int32) (3 : Int32) σ (fun r3 σ3 => ((r3 = 0 → qX3_sheet_B24 a1 a2 a3 post σ3) ∧ (¬ r3 = 0 → (qX3_within a2 (0 : Int32) (2 : Int32) σ3 (fun r12 σ12 => ((r12 = 0 → qX3_sheet_B24 a1 a2 a3 post σ12) ∧ (¬ r12 = 0 → ((a3 ≤ (40 : Int32) → ((0 ≤ a3 → (vp_in a1 4 ∧ (qX1_renew (36 + 2 * a1.toNatClampNeg) a2 a3 σ12 (fun σ41 => post (1 : Int32) σ41)))) ∧ (¬ 0 ≤ a3 → post (-14 : Int32) σ12))) ∧ (¬ a3 ≤ (40 : Int32) → qX3_sheet_B24 a1 a2 a3 post σ12))))))))))
set_option maxRecDepth 20000 in
theorem kX3_sheet {X : Cx} {G : Gw} (hG : fw_IsC G) (O : fw_Ok X G cX3_sheet 4 RX3 1 23 (some .int)) {a1 : Int32} {a2 : Int32} {a3 : Int32}  {σ : Mem} {post : Int32 → Mem → Prop} (h : qX3_sheet a1 a2 a3 σ post) : fw_At X G 4 (fw_QI X G post) 0 [(0, .ref (gad G 0)), (1, .int a1), (2, .int a2), (3, .int a3)] [] σ := by
  unfold qX3_sheet at h
  refine fr_iload_n (pc := 0) O 1 dX3_sheet_0 rfl rfl ?_
  refine fr_iconst (pc := 1) O (v := (0 : Int32)) dX3_sheet_1 (by decide) ?_
  refine fr_iconst (pc := 2) O (v := (3 : Int32)) dX3_sheet_2 (by decide) ?_
  refine fr_callSI (pc := 3) (st := []) O (tX3_within X.2.1 hG  h) mt_X3_within m_238 m_237 rfl (by decide) rfl (Nat.le_of_ble_eq_true rfl) dX3_sheet_3 (fun r3 σ3 h => ?_)
  refine fr_if_eq (pc := 6) (tgt := 24) O dX3_sheet_6 (by decide) (fun c_6 => ?_) (fun c_6 => ?_)
  · have h := h.1 c_6
    exact kX3_sheet_B24 hG O  h
  · have h := h.2 c_6
    refine fr_iload_n (pc := 9) O 2 dX3_sheet_9 rfl rfl ?_
    refine fr_iconst (pc := 10) O (v := (0 : Int32)) dX3_sheet_10 (by decide) ?_
    refine fr_iconst (pc := 11) O (v := (2 : Int32)) dX3_sheet_11 (by decide) ?_
    refine fr_callSI (pc := 12) (st := []) O (tX3_within X.2.1 hG  h) mt_X3_within m_238 m_237 rfl (by decide) rfl (Nat.le_of_ble_eq_true rfl) dX3_sheet_12 (fun r12 σ12 h => ?_)
    refine fr_if_eq (pc := 15) (tgt := 24) O dX3_sheet_15 (by decide) (fun c_15 => ?_) (fun c_15 => ?_)
    · have h := h.1 c_15
      exact kX3_sheet_B24 hG O  h
    · have h := h.2 c_15
      refine fr_iload_n (pc := 18) O 3 dX3_sheet_18 rfl rfl ?_
      refine fr_bipush (pc := 19) O (v := (40 : Int32)) dX3_sheet_19 (by decide) ?_
      refine fr_icmp_le (pc := 21) (tgt := 26) O dX3_sheet_21 (by decide) (fun c_21 => ?_) (fun c_21 => ?_)
      · have h := h.1 c_21
        refine fr_iload_n (pc := 26) O 3 dX3_sheet_26 rfl rfl ?_
        refine fr_if_ge (pc := 27) (tgt := 33) O dX3_sheet_27 (by decide) (fun c_27 => ?_) (fun c_27 => ?_)
        · have h := h.1 c_27
          refine fr_aload_n (pc := 33) O 0 dX3_sheet_33 rfl rfl ?_
          refine fr_get (pc := 34) (k := 6) (v := .ref (gad G 35)) O cl_X3 m_196 (sC_0 hG) (by decide) rfl rfl dX3_sheet_34 ?_
          refine fr_iload_n (pc := 37) O 1 dX3_sheet_37 rfl rfl ?_
          have hi_38 := h.1
          have h := h.2
          have hr_38 := sheet_of hi_38
          refine fr_aald (pc := 38) O (sC_35 hG) hi_38 dX3_sheet_38 ?_
          refine fr_iload_n (pc := 39) O 2 dX3_sheet_39 rfl rfl ?_
          refine fr_iload_n (pc := 40) O 3 dX3_sheet_40 rfl rfl ?_
          refine fr_callVV (pc := 41) (st := []) O (tX1_renew X.2.1 hG hr_38 h) mt_X1_renew mv_X1_renew m_678 cl_X1 rfl (sC_sheet hG hr_38) rfl (by decide) rfl (Nat.le_of_ble_eq_true rfl) dX3_sheet_41 (fun σ41 h => ?_)
          refine fr_iconst (pc := 44) O (v := (1 : Int32)) dX3_sheet_44 (by decide) ?_
          exact fr_iret (pc := 45) O dX3_sheet_45 h
        · have h := h.2 c_27
          refine fr_bipush (pc := 30) O (v := (-14 : Int32)) dX3_sheet_30 (by decide) ?_
          exact fr_iret (pc := 32) O dX3_sheet_32 h
      · have h := h.2 c_21
        exact kX3_sheet_B24 hG O  h
theorem tX3_sheet (l : Launch) {G : Gw} (hG : fw_IsC G) {a1 : Int32} {a2 : Int32} {a3 : Int32}  {σ : Mem} {post : Int32 → Mem → Prop} (h : qX3_sheet a1 a2 a3 σ post) : fw_CI l G yX3_sheet cX3_sheet 4 .int 1 23 [.ref (gad G 0), .int a1, .int a2, .int a3] σ post := fw_ofI (sok_C hG) (by decide) (Nat.le_of_ble_eq_true rfl) (fun X O => kX3_sheet hG O  h)
def qX3_lay (a1 : Int32) (a2 : Int32) (a3 : Int32) (σ : Mem) (post : Int32 → Mem → Prop) : Prop := (qX3_within a1 (0 : Int32) (3 : Int32) σ (fun r3 σ3 => ((¬ r3 = 0 → (vp_in a1 4 ∧ (qX1_faultAt (36 + 2 * a1.toNatClampNeg) (σ3 (36 + 2 * a1.toNatClampNeg) 1) a2 σ3 (fun r27 σ27 => ((r27 = 0 → (qX1_write (36 + 2 * a1.toNatClampNeg) a2 a3 σ27 (fun σ47 => post (1 : Int32) σ47))) ∧ (¬ r27 = 0 → post ((-10 : Int32) - r27) σ27)))))) ∧ (r3 = 0 → post (-1 : Int32) σ3))))
set_option maxRecDepth 20000 in
theorem kX3_lay {X : Cx} {G : Gw} (hG : fw_IsC G) (O : fw_Ok X G cX3_lay 6 RX3 1 22 (some .int)) {a1 : Int32} {a2 : Int32} {a3 : Int32}  {σ : Mem} {post : Int32 → Mem → Prop} (h : qX3_lay a1 a2 a3 σ post) : fw_At X G 6 (fw_QI X G post) 0 [(0, .ref (gad G 0)), (1, .int a1), (2, .int a2), (3, .int a3)] [] σ := by
  unfold qX3_lay at h
  refine fr_iload_n (pc := 0) O 1 dX3_lay_0 rfl rfl ?_
  refine fr_iconst (pc := 1) O (v := (0 : Int32)) dX3_lay_1 (by decide) ?_
  refine fr_iconst (pc := 2) O (v := (3 : Int32)) dX3_lay_2 (by decide) ?_
  refine fr_callSI (pc := 3) (st := []) O (tX3_within X.2.1 hG  h) mt_X3_within m_238 m_237 rfl (by decide) rfl (Nat.le_of_ble_eq_true rfl) dX3_lay_3 (fun r3 σ3 h => ?_)
  refine fr_if_ne (pc := 6) (tgt := 11) O dX3_lay_6 (by decide) (fun c_6 => ?_) (fun c_6 => ?_)
  · have h := h.1 c_6
    refine fr_aload_n (pc := 11) O 0 dX3_lay_11 rfl rfl ?_
    refine fr_get (pc := 12) (k := 6) (v := .ref (gad G 35)) O cl_X3 m_196 (sC_0 hG) (by decide) rfl rfl dX3_lay_12 ?_
    refine fr_iload_n (pc := 15) O 1 dX3_lay_15 rfl rfl ?_
    have hi_16 := h.1
    have h := h.2
    have hr_16 := sheet_of hi_16
    refine fr_aald (pc := 16) O (sC_35 hG) hi_16 dX3_lay_16 ?_
    refine fr_astore (pc := 17) O [1, 2, 3, 4, 0] (lv' := [(0, .ref (gad G 0)), (1, .int a1), (2, .int a2), (3, .int a3), (4, .ref (gad G (36 + 2 * a1.toNatClampNeg)))]) dX3_lay_17 (by decide) rfl ?_
    refine fr_aload (pc := 19) O 4 dX3_lay_19 rfl ?_
    refine fr_aload (pc := 21) O 4 dX3_lay_21 rfl ?_
    refine fr_get (pc := 23) (k := 1) (v := .int (σ3 (36 + 2 * a1.toNatClampNeg) 1)) O cl_X1 m_176 (sC_sheet hG hr_16) (by decide) rfl rfl dX3_lay_23 ?_
    refine fr_iload_n (pc := 26) O 2 dX3_lay_26 rfl rfl ?_
    refine fr_callVI (pc := 27) (st := []) O (tX1_faultAt X.2.1 hG hr_16 h) mt_X1_faultAt mv_X1_faultAt m_686 cl_X1 rfl (sC_sheet hG hr_16) rfl (by decide) rfl (Nat.le_of_ble_eq_true rfl) dX3_lay_27 (fun r27 σ27 h => ?_)
    refine fr_istore (pc := 30) O [1, 2, 3, 4, 5, 0] (lv' := [(0, .ref (gad G 0)), (1, .int a1), (2, .int a2), (3, .int a3), (4, .ref (gad G (36 + 2 * a1.toNatClampNeg))), (5, .int r27)]) dX3_lay_30 (by decide) rfl ?_
    refine fr_iload (pc := 32) O 5 dX3_lay_32 rfl ?_
    refine fr_if_eq (pc := 34) (tgt := 43) O dX3_lay_34 (by decide) (fun c_34 => ?_) (fun c_34 => ?_)
    · have h := h.1 c_34
      refine fr_aload (pc := 43) O 4 dX3_lay_43 rfl ?_
      refine fr_iload_n (pc := 45) O 2 dX3_lay_45 rfl rfl ?_
      refine fr_iload_n (pc := 46) O 3 dX3_lay_46 rfl rfl ?_
      refine fr_callVV (pc := 47) (st := []) O (tX1_write X.2.1 hG hr_16 h) mt_X1_write mv_X1_write m_690 cl_X1 rfl (sC_sheet hG hr_16) rfl (by decide) rfl (Nat.le_of_ble_eq_true rfl) dX3_lay_47 (fun σ47 h => ?_)
      refine fr_iconst (pc := 50) O (v := (1 : Int32)) dX3_lay_50 (by decide) ?_
      exact fr_iret (pc := 51) O dX3_lay_51 h
    · have h := h.2 c_34
      refine fr_bipush (pc := 37) O (v := (-10 : Int32)) dX3_lay_37 (by decide) ?_
      refine fr_iload (pc := 39) O 5 dX3_lay_39 rfl ?_
      refine fr_isub (pc := 41) O dX3_lay_41 ?_
      exact fr_iret (pc := 42) O dX3_lay_42 h
  · have h := h.2 c_6
    refine fr_iconst (pc := 9) O (v := (-1 : Int32)) dX3_lay_9 (by decide) ?_
    exact fr_iret (pc := 10) O dX3_lay_10 h
theorem tX3_lay (l : Launch) {G : Gw} (hG : fw_IsC G) {a1 : Int32} {a2 : Int32} {a3 : Int32}  {σ : Mem} {post : Int32 → Mem → Prop} (h : qX3_lay a1 a2 a3 σ post) : fw_CI l G yX3_lay cX3_lay 6 .int 1 22 [.ref (gad G 0), .int a1, .int a2, .int a3] σ post := fw_ofI (sok_C hG) (by decide) (Nat.le_of_ble_eq_true rfl) (fun X O => kX3_lay hG O  h)
def qX3_read_B29 (a1 : Int32) (a2 : Int32) (a3 : Int32) (a4 : Int32) (post : Int32 → Mem → Prop) (σ : Mem) : Prop := post (-1 : Int32) σ
set_option maxRecDepth 20000 in
theorem kX3_read_B29 {X : Cx} {G : Gw} (hG : fw_IsC G) (O : fw_Ok X G cX3_read 10 RX3 2 43 (some .int)) {a1 : Int32} {a2 : Int32} {a3 : Int32} {a4 : Int32} {post : Int32 → Mem → Prop}    {σ : Mem} (h : qX3_read_B29 a1 a2 a3 a4 post σ) : fw_At X G 10 (fw_QI X G post) 29 [(0, .ref (gad G 0)), (1, .int a1), (2, .int a2), (3, .int a3), (4, .int a4)] [] σ := by
  unfold qX3_read_B29 at h
  refine fr_iconst (pc := 29) O (v := (-1 : Int32)) dX3_read_29 (by decide) ?_
  exact fr_iret (pc := 30) O dX3_read_30 h
def qX3_read_B127 (a1 : Int32) (a2 : Int32) (a3 : Int32) (a4 : Int32) (post : Int32 → Mem → Prop) (x7 : Int32) (x8 : Int32) (σ : Mem) : Prop := (∀ σ130 : Mem, σ130 = up2 σ 0 12 x7 → post x8 σ130)
set_option maxRecDepth 20000 in
theorem kX3_read_B127 {X : Cx} {G : Gw} (hG : fw_IsC G) (O : fw_Ok X G cX3_read 10 RX3 2 43 (some .int)) {a1 : Int32} {a2 : Int32} {a3 : Int32} {a4 : Int32} {post : Int32 → Mem → Prop}   {x7 : Int32} {x8 : Int32} {σ : Mem} (h : qX3_read_B127 a1 a2 a3 a4 post x7 x8 σ) : fw_At X G 10 (fw_QI X G post) 127 [(0, .ref (gad G 0)), (1, .int a1), (2, .int a2), (3, .int a3), (4, .int a4), (7, .int x7), (8, .int x8)] [] σ := by
  unfold qX3_read_B127 at h
  refine fr_aload_n (pc := 127) O 0 dX3_read_127 rfl rfl ?_
  refine fr_iload (pc := 128) O 5 dX3_read_128 rfl ?_
  refine fr_put (pc := 130) (k := 12) O cl_X3 m_202 (sC_0 hG) (by decide) rfl rfl rfl rfl (fun _ => Nat.le_of_ble_eq_true rfl) (fun _ => rfl) dX3_read_130 (fun σ130 e_σ130 => ?_)
  have h := h σ130 e_σ130
  refine fr_iload (pc := 133) O 6 dX3_read_133 rfl ?_
  exact fr_iret (pc := 135) O dX3_read_135 h
def qX3_read_B121 (a1 : Int32) (a2 : Int32) (a3 : Int32) (a4 : Int32) (post : Int32 → Mem → Prop) (k57 : Int32 → Int32 → Int32 → Int32 → Mem → Prop) (x6 : Int32) (x7 : Int32) (x8 : Int32) (x9 : Int32) (σ : Mem) : Prop := (∀ y9_121 : Int32, y9_121 = x9 + (1 : Int32) → k57 x6 x7 x8 y9_121 σ)
set_option maxRecDepth 20000 in
theorem kX3_read_B121 {X : Cx} {G : Gw} (hG : fw_IsC G) (O : fw_Ok X G cX3_read 10 RX3 2 43 (some .int)) {a1 : Int32} {a2 : Int32} {a3 : Int32} {a4 : Int32} {post : Int32 → Mem → Prop} {k57 : Int32 → Int32 → Int32 → Int32 → Mem → Prop} (hr_36 : fw_sheet (36 + 2 * a1.toNatClampNeg)) (hk57 : ∀ (x6 : Int32) (x7 : Int32) (x8 : Int32) (x9 : Int32) (σ : Mem), k57 x6 x7 x8 x9 σ → fw_At X G 10 (fw_QI X G post) 57 [(0, .ref (gad G 0)), (1, .int a1), (2, .int a2), (3, .int a3), (4, .int a4), (5, .ref (gad G (36 + 2 * a1.toNatClampNeg))), (6, .int x6), (7, .int x7), (8, .int x8), (9, .int x9)] [] σ) {x6 : Int32} {x7 : Int32} {x8 : Int32} {x9 : Int32} {σ : Mem} (h : qX3_read_B121 a1 a2 a3 a4 post k57 x6 x7 x8 x9 σ) : fw_At X G 10 (fw_QI X G post) 121 [(0, .ref (gad G 0)), (1, .int a1), (2, .int a2), (3, .int a3), (4, .int a4), (5, .ref (gad G (36 + 2 * a1.toNatClampNeg))), (6, .int x6), (7, .int x7), (8, .int x8), (9, .int x9)] [] σ := by
  unfold qX3_read_B121 at h
  refine fr_iinc (pc := 121) O 9 [1, 2, 3, 4, 5, 6, 7, 8, 9, 0] (w := (1 : Int32)) (lvF := fun y9_121 => [(0, .ref (gad G 0)), (1, .int a1), (2, .int a2), (3, .int a3), (4, .int a4), (5, .ref (gad G (36 + 2 * a1.toNatClampNeg))), (6, .int x6), (7, .int x7), (8, .int x8), (9, .int y9_121)]) dX3_read_121 rfl (by decide) (by decide) (fun _ => rfl) (fun y9_121 e_y9_121 => ?_)
  have h := h y9_121 e_y9_121
  refine fr_goto (pc := 124) (tgt := 57) O dX3_read_124 (by decide) ?_
  exact hk57 _ _ _ _ _ h
def qX3_read_L57 (a1 : Int32) (a2 : Int32) (a3 : Int32) (a4 : Int32) (post : Int32 → Mem → Prop) (k57 : Int32 → Int32 → Int32 → Int32 → Mem → Prop) (x6 : Int32) (x7 : Int32) (x8 : Int32) (x9 : Int32) (σ : Mem) : Prop := ((a4 ≤ x9 → qX3_read_B127 a1 a2 a3 a4 post x7 x8 σ) ∧ (¬ a4 ≤ x9 → ((¬ x7 = 0 → qX3_read_B127 a1 a2 a3 a4 post x7 x8 σ) ∧ (x7 = 0 → (qX1_faultAt (36 + 2 * a1.toNatClampNeg) a2 (a3 + x9) σ (fun r76 σ76 => ((¬ r76 = 0 → qX3_read_B121 a1 a2 a3 a4 post k57 x6 r76 x8 x9 σ76) ∧ (r76 = 0 → (vp_in (a3 + x9) 40 ∧ (qX3_addAct (σ76 ((36 + 2 * a1.toNatClampNeg) + 1) (a3 + x9).toNatClampNeg) σ76 (fun r97 σ97 => ((0 ≤ r97 → (∀ y8_118 : Int32, y8_118 = x8 + (1 : Int32) → qX3_read_B121 a1 a2 a3 a4 post k57 x6 r76 y8_118 x9 σ97)) ∧ (¬ 0 ≤ r97 → (∀ σ109 : Mem, σ109 = up2 σ97 1 7 x6 → post ((-20 : Int32) - x9) σ109))))))))))))))
set_option maxRecDepth 20000 in
theorem kX3_read_L57 {X : Cx} {G : Gw} (hG : fw_IsC G) (O : fw_Ok X G cX3_read 10 RX3 2 43 (some .int)) {a1 : Int32} {a2 : Int32} {a3 : Int32} {a4 : Int32} {post : Int32 → Mem → Prop} {k57 : Int32 → Int32 → Int32 → Int32 → Mem → Prop} (hr_36 : fw_sheet (36 + 2 * a1.toNatClampNeg)) (hk57 : ∀ (x6 : Int32) (x7 : Int32) (x8 : Int32) (x9 : Int32) (σ : Mem), k57 x6 x7 x8 x9 σ → fw_At X G 10 (fw_QI X G post) 57 [(0, .ref (gad G 0)), (1, .int a1), (2, .int a2), (3, .int a3), (4, .int a4), (5, .ref (gad G (36 + 2 * a1.toNatClampNeg))), (6, .int x6), (7, .int x7), (8, .int x8), (9, .int x9)] [] σ) {x6 : Int32} {x7 : Int32} {x8 : Int32} {x9 : Int32} {σ : Mem} (h : qX3_read_L57 a1 a2 a3 a4 post k57 x6 x7 x8 x9 σ) : fw_At X G 10 (fw_QI X G post) 57 [(0, .ref (gad G 0)), (1, .int a1), (2, .int a2), (3, .int a3), (4, .int a4), (5, .ref (gad G (36 + 2 * a1.toNatClampNeg))), (6, .int x6), (7, .int x7), (8, .int x8), (9, .int x9)] [] σ := by
  unfold qX3_read_L57 at h
  refine fr_iload (pc := 57) O 9 dX3_read_57 rfl ?_
  refine fr_iload (pc := 59) O 4 dX3_read_59 rfl ?_
  refine fr_icmp_ge (pc := 61) (tgt := 127) O dX3_read_61 (by decide) (fun c_61 => ?_) (fun c_61 => ?_)
  · have h := h.1 c_61
    refine fw_sub (lv' := [(0, .ref (gad G 0)), (1, .int a1), (2, .int a2), (3, .int a3), (4, .int a4), (7, .int x7), (8, .int x8)]) [0, 1, 2, 3, 4, 7, 8] rfl ?_
    exact kX3_read_B127 hG O  h
  · have h := h.2 c_61
    refine fr_iload (pc := 64) O 7 dX3_read_64 rfl ?_
    refine fr_if_ne (pc := 66) (tgt := 127) O dX3_read_66 (by decide) (fun c_66 => ?_) (fun c_66 => ?_)
    · have h := h.1 c_66
      refine fw_sub (lv' := [(0, .ref (gad G 0)), (1, .int a1), (2, .int a2), (3, .int a3), (4, .int a4), (7, .int x7), (8, .int x8)]) [0, 1, 2, 3, 4, 7, 8] rfl ?_
      exact kX3_read_B127 hG O  h
    · have h := h.2 c_66
      refine fr_aload (pc := 69) O 5 dX3_read_69 rfl ?_
      refine fr_iload_n (pc := 71) O 2 dX3_read_71 rfl rfl ?_
      refine fr_iload_n (pc := 72) O 3 dX3_read_72 rfl rfl ?_
      refine fr_iload (pc := 73) O 9 dX3_read_73 rfl ?_
      refine fr_iadd (pc := 75) O dX3_read_75 ?_
      refine fr_callVI (pc := 76) (st := []) O (tX1_faultAt X.2.1 hG hr_36 h) mt_X1_faultAt mv_X1_faultAt m_686 cl_X1 rfl (sC_sheet hG hr_36) rfl (by decide) rfl (Nat.le_of_ble_eq_true rfl) dX3_read_76 (fun r76 σ76 h => ?_)
      refine fr_istore (pc := 79) O [1, 2, 3, 4, 5, 6, 7, 0, 8, 9] (lv' := [(0, .ref (gad G 0)), (1, .int a1), (2, .int a2), (3, .int a3), (4, .int a4), (5, .ref (gad G (36 + 2 * a1.toNatClampNeg))), (6, .int x6), (7, .int r76), (8, .int x8), (9, .int x9)]) dX3_read_79 (by decide) rfl ?_
      refine fr_iload (pc := 81) O 7 dX3_read_81 rfl ?_
      refine fr_if_ne (pc := 83) (tgt := 121) O dX3_read_83 (by decide) (fun c_83 => ?_) (fun c_83 => ?_)
      · have h := h.1 c_83
        exact kX3_read_B121 hG O hr_36 hk57 h
      · have h := h.2 c_83
        refine fr_aload_n (pc := 86) O 0 dX3_read_86 rfl rfl ?_
        refine fr_aload (pc := 87) O 5 dX3_read_87 rfl ?_
        refine fr_get (pc := 89) (k := 3) (v := .ref (gad G ((36 + 2 * a1.toNatClampNeg) + 1))) O cl_X1 m_180 (sC_sheet hG hr_36) (by decide) rfl rfl dX3_read_89 ?_
        refine fr_iload_n (pc := 92) O 3 dX3_read_92 rfl rfl ?_
        refine fr_iload (pc := 93) O 9 dX3_read_93 rfl ?_
        refine fr_iadd (pc := 95) O dX3_read_95 ?_
        have hi_96 := h.1
        have h := h.2
        refine fr_iald (pc := 96) O (sC_s1 hG hr_36) hi_96 dX3_read_96 ?_
        refine fr_callVI (pc := 97) (st := []) O (tX3_addAct X.2.1 hG  h) mt_X3_addAct mv_X3_addAct m_468 cl_X3 rfl (sC_0 hG) rfl (by decide) rfl (Nat.le_of_ble_eq_true rfl) dX3_read_97 (fun r97 σ97 h => ?_)
        refine fr_if_ge (pc := 100) (tgt := 118) O dX3_read_100 (by decide) (fun c_100 => ?_) (fun c_100 => ?_)
        · have h := h.1 c_100
          refine fr_iinc (pc := 118) O 8 [1, 2, 3, 4, 5, 6, 7, 8, 0, 9] (w := (1 : Int32)) (lvF := fun y8_118 => [(0, .ref (gad G 0)), (1, .int a1), (2, .int a2), (3, .int a3), (4, .int a4), (5, .ref (gad G (36 + 2 * a1.toNatClampNeg))), (6, .int x6), (7, .int r76), (8, .int y8_118), (9, .int x9)]) dX3_read_118 rfl (by decide) (by decide) (fun _ => rfl) (fun y8_118 e_y8_118 => ?_)
          have h := h y8_118 e_y8_118
          exact kX3_read_B121 hG O hr_36 hk57 h
        · have h := h.2 c_100
          refine fr_aload_n (pc := 103) O 0 dX3_read_103 rfl rfl ?_
          refine fr_get (pc := 104) (k := 0) (v := .ref (gad G 1)) O cl_X3 m_190 (sC_0 hG) (by decide) rfl rfl dX3_read_104 ?_
          refine fr_iload (pc := 107) O 6 dX3_read_107 rfl ?_
          refine fr_put (pc := 109) (k := 7) O cl_X0 m_91 (sC_rig hG rg_1) (by decide) rfl rfl rfl rfl (fun _ => Nat.le_of_ble_eq_true rfl) (fun _ => rfl) dX3_read_109 (fun σ109 e_σ109 => ?_)
          have h := h σ109 e_σ109
          refine fr_bipush (pc := 112) O (v := (-20 : Int32)) dX3_read_112 (by decide) ?_
          refine fr_iload (pc := 114) O 9 dX3_read_114 rfl ?_
          refine fr_isub (pc := 116) O dX3_read_116 ?_
          exact fr_iret (pc := 117) O dX3_read_117 h
set_option maxRecDepth 20000 in
theorem kX3_read_L57w {X : Cx} {G : Gw} (hG : fw_IsC G) (O : fw_Ok X G cX3_read 10 RX3 2 43 (some .int)) {a1 : Int32} {a2 : Int32} {a3 : Int32} {a4 : Int32} {post : Int32 → Mem → Prop} (hr_36 : fw_sheet (36 + 2 * a1.toNatClampNeg))  {n9 : Nat} {x6 : Int32} {x7 : Int32} {x8 : Int32} {x9 : Int32} {σ : Mem} (h : it4 (qX3_read_L57 a1 a2 a3 a4 post) n9 x6 x7 x8 x9 σ) : fw_At X G 10 (fw_QI X G post) 57 [(0, .ref (gad G 0)), (1, .int a1), (2, .int a2), (3, .int a3), (4, .int a4), (5, .ref (gad G (36 + 2 * a1.toNatClampNeg))), (6, .int x6), (7, .int x7), (8, .int x8), (9, .int x9)] [] σ :=
  it4_walk (T := fun x6 x7 x8 x9 σ => fw_At X G 10 (fw_QI X G post) 57 [(0, .ref (gad G 0)), (1, .int a1), (2, .int a2), (3, .int a3), (4, .int a4), (5, .ref (gad G (36 + 2 * a1.toNatClampNeg))), (6, .int x6), (7, .int x7), (8, .int x8), (9, .int x9)] [] σ) (fun k57 hk57 x6 x7 x8 x9 σ h => kX3_read_L57 hG O hr_36 hk57 h) n9 x6 x7 x8 x9 σ h
def qX3_read (a1 : Int32) (a2 : Int32) (a3 : Int32) (a4 : Int32) (σ : Mem) (post : Int32 → Mem → Prop) : Prop := (qX3_within a1 (0 : Int32) (3 : Int32) σ (fun r3 σ3 => ((r3 = 0 → qX3_read_B29 a1 a2 a3 a4 post σ3) ∧ (¬ r3 = 0 → (qX3_within a2 (0 : Int32) (2 : Int32) σ3 (fun r12 σ12 => ((r12 = 0 → qX3_read_B29 a1 a2 a3 a4 post σ12) ∧ (¬ r12 = 0 → (qX3_within a4 (0 : Int32) (40 : Int32) σ12 (fun r23 σ23 => ((¬ r23 = 0 → (vp_in a1 4 ∧ (∀ y6_46 : Int32, y6_46 = σ23 1 7 → ∃ n9, it4 (qX3_read_L57 a1 a2 a3 a4 post) n9 y6_46 (0 : Int32) (0 : Int32) (0 : Int32) σ23))) ∧ (r23 = 0 → qX3_read_B29 a1 a2 a3 a4 post σ23))))))))))))
set_option maxRecDepth 20000 in
theorem kX3_read {X : Cx} {G : Gw} (hG : fw_IsC G) (O : fw_Ok X G cX3_read 10 RX3 2 43 (some .int)) {a1 : Int32} {a2 : Int32} {a3 : Int32} {a4 : Int32}  {σ : Mem} {post : Int32 → Mem → Prop} (h : qX3_read a1 a2 a3 a4 σ post) : fw_At X G 10 (fw_QI X G post) 0 [(0, .ref (gad G 0)), (1, .int a1), (2, .int a2), (3, .int a3), (4, .int a4)] [] σ := by
  unfold qX3_read at h
  refine fr_iload_n (pc := 0) O 1 dX3_read_0 rfl rfl ?_
  refine fr_iconst (pc := 1) O (v := (0 : Int32)) dX3_read_1 (by decide) ?_
  refine fr_iconst (pc := 2) O (v := (3 : Int32)) dX3_read_2 (by decide) ?_
  refine fr_callSI (pc := 3) (st := []) O (tX3_within X.2.1 hG  h) mt_X3_within m_238 m_237 rfl (by decide) rfl (Nat.le_of_ble_eq_true rfl) dX3_read_3 (fun r3 σ3 h => ?_)
  refine fr_if_eq (pc := 6) (tgt := 29) O dX3_read_6 (by decide) (fun c_6 => ?_) (fun c_6 => ?_)
  · have h := h.1 c_6
    exact kX3_read_B29 hG O  h
  · have h := h.2 c_6
    refine fr_iload_n (pc := 9) O 2 dX3_read_9 rfl rfl ?_
    refine fr_iconst (pc := 10) O (v := (0 : Int32)) dX3_read_10 (by decide) ?_
    refine fr_iconst (pc := 11) O (v := (2 : Int32)) dX3_read_11 (by decide) ?_
    refine fr_callSI (pc := 12) (st := []) O (tX3_within X.2.1 hG  h) mt_X3_within m_238 m_237 rfl (by decide) rfl (Nat.le_of_ble_eq_true rfl) dX3_read_12 (fun r12 σ12 h => ?_)
    refine fr_if_eq (pc := 15) (tgt := 29) O dX3_read_15 (by decide) (fun c_15 => ?_) (fun c_15 => ?_)
    · have h := h.1 c_15
      exact kX3_read_B29 hG O  h
    · have h := h.2 c_15
      refine fr_iload (pc := 18) O 4 dX3_read_18 rfl ?_
      refine fr_iconst (pc := 20) O (v := (0 : Int32)) dX3_read_20 (by decide) ?_
      refine fr_bipush (pc := 21) O (v := (40 : Int32)) dX3_read_21 (by decide) ?_
      refine fr_callSI (pc := 23) (st := []) O (tX3_within X.2.1 hG  h) mt_X3_within m_238 m_237 rfl (by decide) rfl (Nat.le_of_ble_eq_true rfl) dX3_read_23 (fun r23 σ23 h => ?_)
      refine fr_if_ne (pc := 26) (tgt := 31) O dX3_read_26 (by decide) (fun c_26 => ?_) (fun c_26 => ?_)
      · have h := h.1 c_26
        refine fr_aload_n (pc := 31) O 0 dX3_read_31 rfl rfl ?_
        refine fr_get (pc := 32) (k := 6) (v := .ref (gad G 35)) O cl_X3 m_196 (sC_0 hG) (by decide) rfl rfl dX3_read_32 ?_
        refine fr_iload_n (pc := 35) O 1 dX3_read_35 rfl rfl ?_
        have hi_36 := h.1
        have h := h.2
        have hr_36 := sheet_of hi_36
        refine fr_aald (pc := 36) O (sC_35 hG) hi_36 dX3_read_36 ?_
        refine fr_astore (pc := 37) O [1, 2, 3, 4, 5, 0] (lv' := [(0, .ref (gad G 0)), (1, .int a1), (2, .int a2), (3, .int a3), (4, .int a4), (5, .ref (gad G (36 + 2 * a1.toNatClampNeg)))]) dX3_read_37 (by decide) rfl ?_
        refine fr_aload_n (pc := 39) O 0 dX3_read_39 rfl rfl ?_
        refine fr_get (pc := 40) (k := 0) (v := .ref (gad G 1)) O cl_X3 m_190 (sC_0 hG) (by decide) rfl rfl dX3_read_40 ?_
        refine fr_get (pc := 43) (k := 7) (v := .int (σ23 1 7)) O cl_X0 m_91 (sC_rig hG rg_1) (by decide) rfl rfl dX3_read_43 ?_
        refine fr_nm (fun y6_46 e_y6_46 => ?_)
        have h := h y6_46 e_y6_46
        refine fr_istore (pc := 46) O [1, 2, 3, 4, 5, 6, 0] (lv' := [(0, .ref (gad G 0)), (1, .int a1), (2, .int a2), (3, .int a3), (4, .int a4), (5, .ref (gad G (36 + 2 * a1.toNatClampNeg))), (6, .int y6_46)]) dX3_read_46 (by decide) rfl ?_
        refine fr_iconst (pc := 48) O (v := (0 : Int32)) dX3_read_48 (by decide) ?_
        refine fr_istore (pc := 49) O [1, 2, 3, 4, 5, 6, 7, 0] (lv' := [(0, .ref (gad G 0)), (1, .int a1), (2, .int a2), (3, .int a3), (4, .int a4), (5, .ref (gad G (36 + 2 * a1.toNatClampNeg))), (6, .int y6_46), (7, .int (0 : Int32))]) dX3_read_49 (by decide) rfl ?_
        refine fr_iconst (pc := 51) O (v := (0 : Int32)) dX3_read_51 (by decide) ?_
        refine fr_istore (pc := 52) O [1, 2, 3, 4, 5, 6, 7, 8, 0] (lv' := [(0, .ref (gad G 0)), (1, .int a1), (2, .int a2), (3, .int a3), (4, .int a4), (5, .ref (gad G (36 + 2 * a1.toNatClampNeg))), (6, .int y6_46), (7, .int (0 : Int32)), (8, .int (0 : Int32))]) dX3_read_52 (by decide) rfl ?_
        refine fr_iconst (pc := 54) O (v := (0 : Int32)) dX3_read_54 (by decide) ?_
        refine fr_istore (pc := 55) O [1, 2, 3, 4, 5, 6, 7, 8, 9, 0] (lv' := [(0, .ref (gad G 0)), (1, .int a1), (2, .int a2), (3, .int a3), (4, .int a4), (5, .ref (gad G (36 + 2 * a1.toNatClampNeg))), (6, .int y6_46), (7, .int (0 : Int32)), (8, .int (0 : Int32)), (9, .int (0 : Int32))]) dX3_read_55 (by decide) rfl ?_
        obtain ⟨n9, h⟩ := h
        exact kX3_read_L57w hG O hr_36 h
      · have h := h.2 c_26
        exact kX3_read_B29 hG O  h
theorem tX3_read (l : Launch) {G : Gw} (hG : fw_IsC G) {a1 : Int32} {a2 : Int32} {a3 : Int32} {a4 : Int32}  {σ : Mem} {post : Int32 → Mem → Prop} (h : qX3_read a1 a2 a3 a4 σ post) : fw_CI l G yX3_read cX3_read 10 .int 2 43 [.ref (gad G 0), .int a1, .int a2, .int a3, .int a4] σ post := fw_ofI (sok_C hG) (by decide) (Nat.le_of_ble_eq_true rfl) (fun X O => kX3_read hG O  h)
def qX3_torn  (σ : Mem) (post : Int32 → Mem → Prop) : Prop := post (σ 0 12) σ
set_option maxRecDepth 20000 in
theorem kX3_torn {X : Cx} {G : Gw} (hG : fw_IsC G) (O : fw_Ok X G cX3_torn 1 RX3 0 0 (some .int))   {σ : Mem} {post : Int32 → Mem → Prop} (h : qX3_torn  σ post) : fw_At X G 1 (fw_QI X G post) 0 [(0, .ref (gad G 0))] [] σ := by
  unfold qX3_torn at h
  refine fr_aload_n (pc := 0) O 0 dX3_torn_0 rfl rfl ?_
  refine fr_get (pc := 1) (k := 12) (v := .int (σ 0 12)) O cl_X3 m_202 (sC_0 hG) (by decide) rfl rfl dX3_torn_1 ?_
  exact fr_iret (pc := 4) O dX3_torn_4 h
theorem tX3_torn (l : Launch) {G : Gw} (hG : fw_IsC G)   {σ : Mem} {post : Int32 → Mem → Prop} (h : qX3_torn  σ post) : fw_CI l G yX3_torn cX3_torn 1 .int 0 0 [.ref (gad G 0)] σ post := fw_ofI (sok_C hG) (by decide) (Nat.le_of_ble_eq_true rfl) (fun X O => kX3_torn hG O  h)
def qX3_count_B73 (a1 : Int32) (post : Int32 → Mem → Prop) (s0 : Int32) (s1 : Int32) (σ : Mem) : Prop := post (s0 + s1) σ
set_option maxRecDepth 20000 in
theorem kX3_count_B73 {X : Cx} {G : Gw} (hG : fw_IsC G) (O : fw_Ok X G cX3_count 2 RX3 1 23 (some .int)) {a1 : Int32} {post : Int32 → Mem → Prop}   {s0 : Int32} {s1 : Int32} {σ : Mem} (h : qX3_count_B73 a1 post s0 s1 σ) : fw_At X G 2 (fw_QI X G post) 73 [(0, .ref (gad G 0)), (1, .int a1)] [.int s1, .int s0] σ := by
  unfold qX3_count_B73 at h
  refine fr_iadd (pc := 73) O dX3_count_73 ?_
  exact fr_iret (pc := 74) O dX3_count_74 h
def qX3_count_B59 (a1 : Int32) (post : Int32 → Mem → Prop) (s0 : Int32) (σ : Mem) : Prop := (vp_in (1 : Int32) 2 ∧ (((σ 32 (1 : Int32).toNatClampNeg) = 0 → qX3_count_B73 a1 post s0 (0 : Int32) σ) ∧ (¬ (σ 32 (1 : Int32).toNatClampNeg) = 0 → qX3_count_B73 a1 post s0 (1 : Int32) σ)))
set_option maxRecDepth 20000 in
theorem kX3_count_B59 {X : Cx} {G : Gw} (hG : fw_IsC G) (O : fw_Ok X G cX3_count 2 RX3 1 23 (some .int)) {a1 : Int32} {post : Int32 → Mem → Prop}   {s0 : Int32} {σ : Mem} (h : qX3_count_B59 a1 post s0 σ) : fw_At X G 2 (fw_QI X G post) 59 [(0, .ref (gad G 0)), (1, .int a1)] [.int s0] σ := by
  unfold qX3_count_B59 at h
  refine fr_aload_n (pc := 59) O 0 dX3_count_59 rfl rfl ?_
  refine fr_get (pc := 60) (k := 4) (v := .ref (gad G 32)) O cl_X3 m_194 (sC_0 hG) (by decide) rfl rfl dX3_count_60 ?_
  refine fr_iconst (pc := 63) O (v := (1 : Int32)) dX3_count_63 (by decide) ?_
  have hi_64 := h.1
  have h := h.2
  refine fr_zald (pc := 64) O (sC_32 hG) hi_64 dX3_count_64 ?_
  refine fr_if_eq (pc := 65) (tgt := 72) O dX3_count_65 (by decide) (fun c_65 => ?_) (fun c_65 => ?_)
  · have h := h.1 c_65
    refine fr_iconst (pc := 72) O (v := (0 : Int32)) dX3_count_72 (by decide) ?_
    exact kX3_count_B73 hG O  h
  · have h := h.2 c_65
    refine fr_iconst (pc := 68) O (v := (1 : Int32)) dX3_count_68 (by decide) ?_
    refine fr_goto (pc := 69) (tgt := 73) O dX3_count_69 (by decide) ?_
    exact kX3_count_B73 hG O  h
def qX3_count_B109 (a1 : Int32) (post : Int32 → Mem → Prop) (s0 : Int32) (σ : Mem) : Prop := post s0 σ
set_option maxRecDepth 20000 in
theorem kX3_count_B109 {X : Cx} {G : Gw} (hG : fw_IsC G) (O : fw_Ok X G cX3_count 2 RX3 1 23 (some .int)) {a1 : Int32} {post : Int32 → Mem → Prop}   {s0 : Int32} {σ : Mem} (h : qX3_count_B109 a1 post s0 σ) : fw_At X G 2 (fw_QI X G post) 109 [(0, .ref (gad G 0)), (1, .int a1)] [.int s0] σ := by
  unfold qX3_count_B109 at h
  exact fr_iret (pc := 109) O dX3_count_109 h
def qX3_count (a1 : Int32) (σ : Mem) (post : Int32 → Mem → Prop) : Prop := ((a1 = (0 : Int32) → post (σ 0 10) σ) ∧ (¬ a1 = (0 : Int32) → ((a1 = (1 : Int32) → (vp_in (0 : Int32) 2 ∧ (((σ 32 (0 : Int32).toNatClampNeg) = 0 → qX3_count_B59 a1 post (0 : Int32) σ) ∧ (¬ (σ 32 (0 : Int32).toNatClampNeg) = 0 → qX3_count_B59 a1 post (1 : Int32) σ)))) ∧ (¬ a1 = (1 : Int32) → ((a1 = (2 : Int32) → post (σ 33 1) σ) ∧ (¬ a1 = (2 : Int32) → ((a1 = (3 : Int32) → (vp_in (0 : Int32) 4 ∧ (((σ (36 + 2 * (0 : Int32).toNatClampNeg) 0) = 0 → qX3_count_B109 a1 post (-4 : Int32) σ) ∧ (¬ (σ (36 + 2 * (0 : Int32).toNatClampNeg) 0) = 0 → qX3_count_B109 a1 post (σ (36 + 2 * (0 : Int32).toNatClampNeg) 2) σ)))) ∧ (¬ a1 = (3 : Int32) → ((a1 = (4 : Int32) → (qX0_sumOfWheels 1 3 4 σ (fun r121 σ121 => post r121 σ121))) ∧ (¬ a1 = (4 : Int32) → ((a1 = (5 : Int32) → (qX0_sumOfWheels 1 4 4 σ (fun r136 σ136 => post r136 σ136))) ∧ (¬ a1 = (5 : Int32) → post (-1 : Int32) σ))))))))))))
set_option maxRecDepth 20000 in
theorem kX3_count {X : Cx} {G : Gw} (hG : fw_IsC G) (O : fw_Ok X G cX3_count 2 RX3 1 23 (some .int)) {a1 : Int32}  {σ : Mem} {post : Int32 → Mem → Prop} (h : qX3_count a1 σ post) : fw_At X G 2 (fw_QI X G post) 0 [(0, .ref (gad G 0)), (1, .int a1)] [] σ := by
  unfold qX3_count at h
  refine fr_iload_n (pc := 0) O 1 dX3_count_0 rfl rfl ?_
  by_cases e1_0 : a1 = (0 : Int32)
  · refine fr_tabIn (pc := 1) (tgt := 40) (off := 39) O dX3_count_1 (by rw [e1_0]; decide) ?_
    have h := h.1 e1_0
    refine fr_aload_n (pc := 40) O 0 dX3_count_40 rfl rfl ?_
    refine fr_get (pc := 41) (k := 10) (v := .int (σ 0 10)) O cl_X3 m_200 (sC_0 hG) (by decide) rfl rfl dX3_count_41 ?_
    exact fr_iret (pc := 44) O dX3_count_44 h
  · have h := h.2 e1_0
    by_cases e1_1 : a1 = (1 : Int32)
    · refine fr_tabIn (pc := 1) (tgt := 45) (off := 44) O dX3_count_1 (by rw [e1_1]; decide) ?_
      have h := h.1 e1_1
      refine fr_aload_n (pc := 45) O 0 dX3_count_45 rfl rfl ?_
      refine fr_get (pc := 46) (k := 4) (v := .ref (gad G 32)) O cl_X3 m_194 (sC_0 hG) (by decide) rfl rfl dX3_count_46 ?_
      refine fr_iconst (pc := 49) O (v := (0 : Int32)) dX3_count_49 (by decide) ?_
      have hi_50 := h.1
      have h := h.2
      refine fr_zald (pc := 50) O (sC_32 hG) hi_50 dX3_count_50 ?_
      refine fr_if_eq (pc := 51) (tgt := 58) O dX3_count_51 (by decide) (fun c_51 => ?_) (fun c_51 => ?_)
      · have h := h.1 c_51
        refine fr_iconst (pc := 58) O (v := (0 : Int32)) dX3_count_58 (by decide) ?_
        exact kX3_count_B59 hG O  h
      · have h := h.2 c_51
        refine fr_iconst (pc := 54) O (v := (1 : Int32)) dX3_count_54 (by decide) ?_
        refine fr_goto (pc := 55) (tgt := 59) O dX3_count_55 (by decide) ?_
        exact kX3_count_B59 hG O  h
    · have h := h.2 e1_1
      by_cases e1_2 : a1 = (2 : Int32)
      · refine fr_tabIn (pc := 1) (tgt := 75) (off := 74) O dX3_count_1 (by rw [e1_2]; decide) ?_
        have h := h.1 e1_2
        refine fr_aload_n (pc := 75) O 0 dX3_count_75 rfl rfl ?_
        refine fr_get (pc := 76) (k := 5) (v := .ref (gad G 33)) O cl_X3 m_195 (sC_0 hG) (by decide) rfl rfl dX3_count_76 ?_
        refine fr_get (pc := 79) (k := 1) (v := .int (σ 33 1)) O cl_X2 m_140 (sC_33 hG) (by decide) rfl rfl dX3_count_79 ?_
        exact fr_iret (pc := 82) O dX3_count_82 h
      · have h := h.2 e1_2
        by_cases e1_3 : a1 = (3 : Int32)
        · refine fr_tabIn (pc := 1) (tgt := 83) (off := 82) O dX3_count_1 (by rw [e1_3]; decide) ?_
          have h := h.1 e1_3
          refine fr_aload_n (pc := 83) O 0 dX3_count_83 rfl rfl ?_
          refine fr_get (pc := 84) (k := 6) (v := .ref (gad G 35)) O cl_X3 m_196 (sC_0 hG) (by decide) rfl rfl dX3_count_84 ?_
          refine fr_iconst (pc := 87) O (v := (0 : Int32)) dX3_count_87 (by decide) ?_
          have hi_88 := h.1
          have h := h.2
          have hr_88 := sheet_of hi_88
          refine fr_aald (pc := 88) O (sC_35 hG) hi_88 dX3_count_88 ?_
          refine fr_get (pc := 89) (k := 0) (v := .int (σ (36 + 2 * (0 : Int32).toNatClampNeg) 0)) O cl_X1 m_174 (sC_sheet hG hr_88) (by decide) rfl rfl dX3_count_89 ?_
          refine fr_if_eq (pc := 92) (tgt := 107) O dX3_count_92 (by decide) (fun c_92 => ?_) (fun c_92 => ?_)
          · have h := h.1 c_92
            refine fr_bipush (pc := 107) O (v := (-4 : Int32)) dX3_count_107 (by decide) ?_
            exact kX3_count_B109 hG O  h
          · have h := h.2 c_92
            refine fr_aload_n (pc := 95) O 0 dX3_count_95 rfl rfl ?_
            refine fr_get (pc := 96) (k := 6) (v := .ref (gad G 35)) O cl_X3 m_196 (sC_0 hG) (by decide) rfl rfl dX3_count_96 ?_
            refine fr_iconst (pc := 99) O (v := (0 : Int32)) dX3_count_99 (by decide) ?_
            have hr_100 := sheet_of hi_88
            refine fr_aald (pc := 100) O (sC_35 hG) hi_88 dX3_count_100 ?_
            refine fr_get (pc := 101) (k := 2) (v := .int (σ (36 + 2 * (0 : Int32).toNatClampNeg) 2)) O cl_X1 m_178 (sC_sheet hG hr_100) (by decide) rfl rfl dX3_count_101 ?_
            refine fr_goto (pc := 104) (tgt := 109) O dX3_count_104 (by decide) ?_
            exact kX3_count_B109 hG O  h
        · have h := h.2 e1_3
          by_cases e1_4 : a1 = (4 : Int32)
          · refine fr_tabIn (pc := 1) (tgt := 110) (off := 109) O dX3_count_1 (by rw [e1_4]; decide) ?_
            have h := h.1 e1_4
            refine fr_aload_n (pc := 110) O 0 dX3_count_110 rfl rfl ?_
            refine fr_get (pc := 111) (k := 0) (v := .ref (gad G 1)) O cl_X3 m_190 (sC_0 hG) (by decide) rfl rfl dX3_count_111 ?_
            refine fr_aload_n (pc := 114) O 0 dX3_count_114 rfl rfl ?_
            refine fr_get (pc := 115) (k := 0) (v := .ref (gad G 1)) O cl_X3 m_190 (sC_0 hG) (by decide) rfl rfl dX3_count_115 ?_
            refine fr_get (pc := 118) (k := 4) (v := .ref (gad G 3)) O cl_X0 m_85 (sC_rig hG rg_1) (by decide) rfl rfl dX3_count_118 ?_
            refine fr_callVI (pc := 121) (st := []) O (tX0_sumOfWheels X.2.1 hG rg_1 (sC_r2 hG rg_1) h) mt_X0_sumOfWheels mv_X0_sumOfWheels m_706 cl_X0 rfl (sC_rig hG rg_1) rfl (by decide) rfl (Nat.le_of_ble_eq_true rfl) dX3_count_121 (fun r121 σ121 h => ?_)
            exact fr_iret (pc := 124) O dX3_count_124 h
          · have h := h.2 e1_4
            by_cases e1_5 : a1 = (5 : Int32)
            · refine fr_tabIn (pc := 1) (tgt := 125) (off := 124) O dX3_count_1 (by rw [e1_5]; decide) ?_
              have h := h.1 e1_5
              refine fr_aload_n (pc := 125) O 0 dX3_count_125 rfl rfl ?_
              refine fr_get (pc := 126) (k := 0) (v := .ref (gad G 1)) O cl_X3 m_190 (sC_0 hG) (by decide) rfl rfl dX3_count_126 ?_
              refine fr_aload_n (pc := 129) O 0 dX3_count_129 rfl rfl ?_
              refine fr_get (pc := 130) (k := 0) (v := .ref (gad G 1)) O cl_X3 m_190 (sC_0 hG) (by decide) rfl rfl dX3_count_130 ?_
              refine fr_get (pc := 133) (k := 5) (v := .ref (gad G 4)) O cl_X0 m_87 (sC_rig hG rg_1) (by decide) rfl rfl dX3_count_133 ?_
              refine fr_callVI (pc := 136) (st := []) O (tX0_sumOfWheels X.2.1 hG rg_1 (sC_r3 hG rg_1) h) mt_X0_sumOfWheels mv_X0_sumOfWheels m_706 cl_X0 rfl (sC_rig hG rg_1) rfl (by decide) rfl (Nat.le_of_ble_eq_true rfl) dX3_count_136 (fun r136 σ136 h => ?_)
              exact fr_iret (pc := 139) O dX3_count_139 h
            · have h := h.2 e1_5
              have n0 := lv_neT e1_0 (show ((0 : Int32)).toInt = 0 by decide)
              have n1 := lv_neT e1_1 (show ((1 : Int32)).toInt = 1 by decide)
              have n2 := lv_neT e1_2 (show ((2 : Int32)).toInt = 2 by decide)
              have n3 := lv_neT e1_3 (show ((3 : Int32)).toInt = 3 by decide)
              have n4 := lv_neT e1_4 (show ((4 : Int32)).toInt = 4 by decide)
              have n5 := lv_neT e1_5 (show ((5 : Int32)).toInt = 5 by decide)
              refine fr_tabOut (pc := 1) (tgt := 140) O dX3_count_1 (by omega) (by decide) ?_
              refine fr_iconst (pc := 140) O (v := (-1 : Int32)) dX3_count_140 (by decide) ?_
              exact fr_iret (pc := 141) O dX3_count_141 h
theorem tX3_count (l : Launch) {G : Gw} (hG : fw_IsC G) {a1 : Int32}  {σ : Mem} {post : Int32 → Mem → Prop} (h : qX3_count a1 σ post) : fw_CI l G yX3_count cX3_count 2 .int 1 23 [.ref (gad G 0), .int a1] σ post := fw_ofI (sok_C hG) (by decide) (Nat.le_of_ble_eq_true rfl) (fun X O => kX3_count hG O  h)
