def qX0_clearSums (b : Nat) (σ : Mem) (post : Mem → Prop) : Prop := (∀ σ2 : Mem, σ2 = up2 σ b 10 (0 : Int32) → (∀ σ7 : Mem, σ7 = up2 σ2 b 11 (0 : Int32) → (∀ σ12 : Mem, σ12 = up2 σ7 b 12 (0 : Int32) → post σ12)))
set_option maxRecDepth 20000 in
theorem kX0_clearSums {X : Cx} {G : Gw} (hG : fw_IsC G) (O : fw_Ok X G cX0_clearSums 1 RX0 0 0 none) {b : Nat} (hb : fw_rig b) {σ : Mem} {post : Mem → Prop} (h : qX0_clearSums b σ post) : fw_At X G 1 (fw_QV X G post) 0 [(0, .ref (gad G b))] [] σ := by
  unfold qX0_clearSums at h
  refine fr_aload_n (pc := 0) O 0 dX0_clearSums_0 rfl rfl ?_
  refine fr_iconst (pc := 1) O (v := (0 : Int32)) dX0_clearSums_1 (by decide) ?_
  refine fr_put (pc := 2) (k := 10) O cl_X0 m_97 (sC_rig hG hb) (by decide) rfl rfl rfl rfl (fun _ => Nat.le_of_ble_eq_true rfl) (fun _ => rfl) dX0_clearSums_2 (fun σ2 e_σ2 => ?_)
  have h := h σ2 e_σ2
  refine fr_aload_n (pc := 5) O 0 dX0_clearSums_5 rfl rfl ?_
  refine fr_iconst (pc := 6) O (v := (0 : Int32)) dX0_clearSums_6 (by decide) ?_
  refine fr_put (pc := 7) (k := 11) O cl_X0 m_99 (sC_rig hG hb) (by decide) rfl rfl rfl rfl (fun _ => Nat.le_of_ble_eq_true rfl) (fun _ => rfl) dX0_clearSums_7 (fun σ7 e_σ7 => ?_)
  have h := h σ7 e_σ7
  refine fr_aload_n (pc := 10) O 0 dX0_clearSums_10 rfl rfl ?_
  refine fr_iconst (pc := 11) O (v := (0 : Int32)) dX0_clearSums_11 (by decide) ?_
  refine fr_put (pc := 12) (k := 12) O cl_X0 m_101 (sC_rig hG hb) (by decide) rfl rfl rfl rfl (fun _ => Nat.le_of_ble_eq_true rfl) (fun _ => rfl) dX0_clearSums_12 (fun σ12 e_σ12 => ?_)
  have h := h σ12 e_σ12
  exact fr_vret (pc := 15) O dX0_clearSums_15 h
theorem tX0_clearSums (l : Launch) {G : Gw} (hG : fw_IsC G) {b : Nat} (hb : fw_rig b) {σ : Mem} {post : Mem → Prop} (h : qX0_clearSums b σ post) : fw_CV l G yX0_clearSums cX0_clearSums 1 0 0 [.ref (gad G b)] σ post := fw_ofV (sok_C hG) (by decide) (Nat.le_of_ble_eq_true rfl) (fun X O => kX0_clearSums hG O hb h)
def qX0_clear (b : Nat) (σ : Mem) (post : Mem → Prop) : Prop := (∀ σ2 : Mem, σ2 = up2 σ b 0 (5 : Int32) → (∀ σ7 : Mem, σ7 = up2 σ2 b 1 (0 : Int32) → (∀ σ12 : Mem, σ12 = up2 σ7 b 2 (0 : Int32) → (∀ σ17 : Mem, σ17 = up2 σ12 b 7 (0 : Int32) → (∀ σ22 : Mem, σ22 = up2 σ17 b 9 (0 : Int32) → (qX0_clearSums b σ22 (fun σ26 => post σ26)))))))
set_option maxRecDepth 20000 in
theorem kX0_clear {X : Cx} {G : Gw} (hG : fw_IsC G) (O : fw_Ok X G cX0_clear 1 RX0 1 20 none) {b : Nat} (hb : fw_rig b) {σ : Mem} {post : Mem → Prop} (h : qX0_clear b σ post) : fw_At X G 1 (fw_QV X G post) 0 [(0, .ref (gad G b))] [] σ := by
  unfold qX0_clear at h
  refine fr_aload_n (pc := 0) O 0 dX0_clear_0 rfl rfl ?_
  refine fr_iconst (pc := 1) O (v := (5 : Int32)) dX0_clear_1 (by decide) ?_
  refine fr_put (pc := 2) (k := 0) O cl_X0 m_74 (sC_rig hG hb) (by decide) rfl rfl rfl rfl (fun _ => Nat.le_of_ble_eq_true rfl) (fun _ => rfl) dX0_clear_2 (fun σ2 e_σ2 => ?_)
  have h := h σ2 e_σ2
  refine fr_aload_n (pc := 5) O 0 dX0_clear_5 rfl rfl ?_
  refine fr_iconst (pc := 6) O (v := (0 : Int32)) dX0_clear_6 (by decide) ?_
  refine fr_put (pc := 7) (k := 1) O cl_X0 m_77 (sC_rig hG hb) (by decide) rfl rfl rfl rfl (fun _ => Nat.le_of_ble_eq_true rfl) (fun _ => rfl) dX0_clear_7 (fun σ7 e_σ7 => ?_)
  have h := h σ7 e_σ7
  refine fr_aload_n (pc := 10) O 0 dX0_clear_10 rfl rfl ?_
  refine fr_iconst (pc := 11) O (v := (0 : Int32)) dX0_clear_11 (by decide) ?_
  refine fr_put (pc := 12) (k := 2) O cl_X0 m_79 (sC_rig hG hb) (by decide) rfl rfl rfl rfl (fun _ => Nat.le_of_ble_eq_true rfl) (fun _ => rfl) dX0_clear_12 (fun σ12 e_σ12 => ?_)
  have h := h σ12 e_σ12
  refine fr_aload_n (pc := 15) O 0 dX0_clear_15 rfl rfl ?_
  refine fr_iconst (pc := 16) O (v := (0 : Int32)) dX0_clear_16 (by decide) ?_
  refine fr_put (pc := 17) (k := 7) O cl_X0 m_90 (sC_rig hG hb) (by decide) rfl rfl rfl rfl (fun _ => Nat.le_of_ble_eq_true rfl) (fun _ => rfl) dX0_clear_17 (fun σ17 e_σ17 => ?_)
  have h := h σ17 e_σ17
  refine fr_aload_n (pc := 20) O 0 dX0_clear_20 rfl rfl ?_
  refine fr_iconst (pc := 21) O (v := (0 : Int32)) dX0_clear_21 (by decide) ?_
  refine fr_put (pc := 22) (k := 9) O cl_X0 m_95 (sC_rig hG hb) (by decide) rfl rfl rfl rfl (fun _ => Nat.le_of_ble_eq_true rfl) (fun _ => rfl) dX0_clear_22 (fun σ22 e_σ22 => ?_)
  have h := h σ22 e_σ22
  refine fr_aload_n (pc := 25) O 0 dX0_clear_25 rfl rfl ?_
  refine fr_callVV (pc := 26) (st := []) O (tX0_clearSums X.2.1 hG hb h) mt_X0_clearSums mv_X0_clearSums m_260 cl_X0 rfl (sC_rig hG hb) rfl (by decide) rfl (Nat.le_of_ble_eq_true rfl) dX0_clear_26 (fun σ26 h => ?_)
  exact fr_vret (pc := 29) O dX0_clear_29 h
theorem tX0_clear (l : Launch) {G : Gw} (hG : fw_IsC G) {b : Nat} (hb : fw_rig b) {σ : Mem} {post : Mem → Prop} (h : qX0_clear b σ post) : fw_CV l G yX0_clear cX0_clear 1 1 20 [.ref (gad G b)] σ post := fw_ofV (sok_C hG) (by decide) (Nat.le_of_ble_eq_true rfl) (fun X O => kX0_clear hG O hb h)
def qX0_become_L95 (b : Nat) (o : Nat) (post : Mem → Prop) (k95 : Int32 → Mem → Prop) (x2 : Int32) (σ : Mem) : Prop := (((16 : Int32) ≤ x2 → (∀ σ124 : Mem, σ124 = up2 σ b 9 (σ o 9) → (∀ σ132 : Mem, σ132 = up2 σ124 b 10 (σ124 o 10) → (∀ σ140 : Mem, σ140 = up2 σ132 b 11 (σ132 o 11) → (∀ σ148 : Mem, σ148 = up2 σ140 b 12 (σ140 o 12) → post σ148))))) ∧ (¬ (16 : Int32) ≤ x2 → (vp_in x2 16 ∧ (∀ σ112 : Mem, σ112 = up2 σ (b + 5) x2.toNatClampNeg (σ (o + 5) x2.toNatClampNeg) → (∀ y2_113 : Int32, y2_113 = x2 + (1 : Int32) → k95 y2_113 σ112)))))
set_option maxRecDepth 20000 in
theorem kX0_become_L95 {X : Cx} {G : Gw} (hG : fw_IsC G) (O : fw_Ok X G cX0_become 3 RX0 0 0 none) {b : Nat} {o : Nat} {post : Mem → Prop} {k95 : Int32 → Mem → Prop} (hb : fw_rig b) (ho : fw_rig o) (hk95 : ∀ (x2 : Int32) (σ : Mem), k95 x2 σ → fw_At X G 3 (fw_QV X G post) 95 [(0, .ref (gad G b)), (1, .ref (gad G o)), (2, .int x2)] [] σ) {x2 : Int32} {σ : Mem} (h : qX0_become_L95 b o post k95 x2 σ) : fw_At X G 3 (fw_QV X G post) 95 [(0, .ref (gad G b)), (1, .ref (gad G o)), (2, .int x2)] [] σ := by
  unfold qX0_become_L95 at h
  refine fr_iload_n (pc := 95) O 2 dX0_become_95 rfl rfl ?_
  refine fr_bipush (pc := 96) O (v := (16 : Int32)) dX0_become_96 (by decide) ?_
  refine fr_icmp_ge (pc := 98) (tgt := 119) O dX0_become_98 (by decide) (fun c_98 => ?_) (fun c_98 => ?_)
  · have h := h.1 c_98
    refine fr_aload_n (pc := 119) O 0 dX0_become_119 rfl rfl ?_
    refine fr_aload_n (pc := 120) O 1 dX0_become_120 rfl rfl ?_
    refine fr_get (pc := 121) (k := 9) (v := .int (σ o 9)) O cl_X0 m_95 (sC_rig hG ho) (by decide) rfl rfl dX0_become_121 ?_
    refine fr_put (pc := 124) (k := 9) O cl_X0 m_95 (sC_rig hG hb) (by decide) rfl rfl rfl rfl (fun _ => Nat.le_of_ble_eq_true rfl) (fun _ => rfl) dX0_become_124 (fun σ124 e_σ124 => ?_)
    have h := h σ124 e_σ124
    refine fr_aload_n (pc := 127) O 0 dX0_become_127 rfl rfl ?_
    refine fr_aload_n (pc := 128) O 1 dX0_become_128 rfl rfl ?_
    refine fr_get (pc := 129) (k := 10) (v := .int (σ124 o 10)) O cl_X0 m_97 (sC_rig hG ho) (by decide) rfl rfl dX0_become_129 ?_
    refine fr_put (pc := 132) (k := 10) O cl_X0 m_97 (sC_rig hG hb) (by decide) rfl rfl rfl rfl (fun _ => Nat.le_of_ble_eq_true rfl) (fun _ => rfl) dX0_become_132 (fun σ132 e_σ132 => ?_)
    have h := h σ132 e_σ132
    refine fr_aload_n (pc := 135) O 0 dX0_become_135 rfl rfl ?_
    refine fr_aload_n (pc := 136) O 1 dX0_become_136 rfl rfl ?_
    refine fr_get (pc := 137) (k := 11) (v := .int (σ132 o 11)) O cl_X0 m_99 (sC_rig hG ho) (by decide) rfl rfl dX0_become_137 ?_
    refine fr_put (pc := 140) (k := 11) O cl_X0 m_99 (sC_rig hG hb) (by decide) rfl rfl rfl rfl (fun _ => Nat.le_of_ble_eq_true rfl) (fun _ => rfl) dX0_become_140 (fun σ140 e_σ140 => ?_)
    have h := h σ140 e_σ140
    refine fr_aload_n (pc := 143) O 0 dX0_become_143 rfl rfl ?_
    refine fr_aload_n (pc := 144) O 1 dX0_become_144 rfl rfl ?_
    refine fr_get (pc := 145) (k := 12) (v := .int (σ140 o 12)) O cl_X0 m_101 (sC_rig hG ho) (by decide) rfl rfl dX0_become_145 ?_
    refine fr_put (pc := 148) (k := 12) O cl_X0 m_101 (sC_rig hG hb) (by decide) rfl rfl rfl rfl (fun _ => Nat.le_of_ble_eq_true rfl) (fun _ => rfl) dX0_become_148 (fun σ148 e_σ148 => ?_)
    have h := h σ148 e_σ148
    exact fr_vret (pc := 151) O dX0_become_151 h
  · have h := h.2 c_98
    refine fr_aload_n (pc := 101) O 0 dX0_become_101 rfl rfl ?_
    refine fr_get (pc := 102) (k := 8) (v := .ref (gad G (b + 5))) O cl_X0 m_93 (sC_rig hG hb) (by decide) rfl rfl dX0_become_102 ?_
    refine fr_iload_n (pc := 105) O 2 dX0_become_105 rfl rfl ?_
    refine fr_aload_n (pc := 106) O 1 dX0_become_106 rfl rfl ?_
    refine fr_get (pc := 107) (k := 8) (v := .ref (gad G (o + 5))) O cl_X0 m_93 (sC_rig hG ho) (by decide) rfl rfl dX0_become_107 ?_
    refine fr_iload_n (pc := 110) O 2 dX0_become_110 rfl rfl ?_
    have hi_111 := h.1
    have h := h.2
    refine fr_iald (pc := 111) O (sC_r5 hG ho) hi_111 dX0_become_111 ?_
    refine fr_iast (pc := 112) O (sC_r5 hG hb) hi_111 dX0_become_112 (fun σ112 e_σ112 => ?_)
    have h := h σ112 e_σ112
    refine fr_iinc (pc := 113) O 2 [1, 2, 0] (w := (1 : Int32)) (lvF := fun y2_113 => [(0, .ref (gad G b)), (1, .ref (gad G o)), (2, .int y2_113)]) dX0_become_113 rfl (by decide) (by decide) (fun _ => rfl) (fun y2_113 e_y2_113 => ?_)
    have h := h y2_113 e_y2_113
    refine fr_goto (pc := 116) (tgt := 95) O dX0_become_116 (by decide) ?_
    exact hk95 _ _ h
set_option maxRecDepth 20000 in
theorem kX0_become_L95w {X : Cx} {G : Gw} (hG : fw_IsC G) (O : fw_Ok X G cX0_become 3 RX0 0 0 none) {b : Nat} {o : Nat} {post : Mem → Prop} (hb : fw_rig b) (ho : fw_rig o)  {n9 : Nat} {x2 : Int32} {σ : Mem} (h : it1 (qX0_become_L95 b o post) n9 x2 σ) : fw_At X G 3 (fw_QV X G post) 95 [(0, .ref (gad G b)), (1, .ref (gad G o)), (2, .int x2)] [] σ :=
  it1_walk (T := fun x2 σ => fw_At X G 3 (fw_QV X G post) 95 [(0, .ref (gad G b)), (1, .ref (gad G o)), (2, .int x2)] [] σ) (fun k95 hk95 x2 σ h => kX0_become_L95 hG O hb ho hk95 h) n9 x2 σ h
def qX0_become_L26 (b : Nat) (o : Nat) (post : Mem → Prop) (k26 : Int32 → Mem → Prop) (x2 : Int32) (σ : Mem) : Prop := (((4 : Int32) ≤ x2 → (∀ σ90 : Mem, σ90 = up2 σ b 7 (σ o 7) → ∃ n9, it1 (qX0_become_L95 b o post) n9 (0 : Int32) σ90)) ∧ (¬ (4 : Int32) ≤ x2 → (vp_in x2 4 ∧ (∀ σ42 : Mem, σ42 = up2 σ (b + 1) x2.toNatClampNeg (σ (o + 1) x2.toNatClampNeg) → (∀ σ54 : Mem, σ54 = up2 σ42 (b + 2) x2.toNatClampNeg (σ42 (o + 2) x2.toNatClampNeg) → (∀ σ66 : Mem, σ66 = up2 σ54 (b + 3) x2.toNatClampNeg (σ54 (o + 3) x2.toNatClampNeg) → (∀ σ78 : Mem, σ78 = up2 σ66 (b + 4) x2.toNatClampNeg (σ66 (o + 4) x2.toNatClampNeg) → (∀ y2_79 : Int32, y2_79 = x2 + (1 : Int32) → k26 y2_79 σ78))))))))
set_option maxRecDepth 20000 in
theorem kX0_become_L26 {X : Cx} {G : Gw} (hG : fw_IsC G) (O : fw_Ok X G cX0_become 3 RX0 0 0 none) {b : Nat} {o : Nat} {post : Mem → Prop} {k26 : Int32 → Mem → Prop} (hb : fw_rig b) (ho : fw_rig o) (hk26 : ∀ (x2 : Int32) (σ : Mem), k26 x2 σ → fw_At X G 3 (fw_QV X G post) 26 [(0, .ref (gad G b)), (1, .ref (gad G o)), (2, .int x2)] [] σ) {x2 : Int32} {σ : Mem} (h : qX0_become_L26 b o post k26 x2 σ) : fw_At X G 3 (fw_QV X G post) 26 [(0, .ref (gad G b)), (1, .ref (gad G o)), (2, .int x2)] [] σ := by
  unfold qX0_become_L26 at h
  refine fr_iload_n (pc := 26) O 2 dX0_become_26 rfl rfl ?_
  refine fr_iconst (pc := 27) O (v := (4 : Int32)) dX0_become_27 (by decide) ?_
  refine fr_icmp_ge (pc := 28) (tgt := 85) O dX0_become_28 (by decide) (fun c_28 => ?_) (fun c_28 => ?_)
  · have h := h.1 c_28
    refine fr_aload_n (pc := 85) O 0 dX0_become_85 rfl rfl ?_
    refine fr_aload_n (pc := 86) O 1 dX0_become_86 rfl rfl ?_
    refine fr_get (pc := 87) (k := 7) (v := .int (σ o 7)) O cl_X0 m_90 (sC_rig hG ho) (by decide) rfl rfl dX0_become_87 ?_
    refine fr_put (pc := 90) (k := 7) O cl_X0 m_90 (sC_rig hG hb) (by decide) rfl rfl rfl rfl (fun _ => Nat.le_of_ble_eq_true rfl) (fun _ => rfl) dX0_become_90 (fun σ90 e_σ90 => ?_)
    have h := h σ90 e_σ90
    refine fr_iconst (pc := 93) O (v := (0 : Int32)) dX0_become_93 (by decide) ?_
    refine fr_istore_n (pc := 94) O [1, 2, 0] (lv' := [(0, .ref (gad G b)), (1, .ref (gad G o)), (2, .int (0 : Int32))]) dX0_become_94 rfl (by decide) rfl ?_
    obtain ⟨n9, h⟩ := h
    exact kX0_become_L95w hG O hb ho h
  · have h := h.2 c_28
    refine fr_aload_n (pc := 31) O 0 dX0_become_31 rfl rfl ?_
    refine fr_get (pc := 32) (k := 3) (v := .ref (gad G (b + 1))) O cl_X0 m_82 (sC_rig hG hb) (by decide) rfl rfl dX0_become_32 ?_
    refine fr_iload_n (pc := 35) O 2 dX0_become_35 rfl rfl ?_
    refine fr_aload_n (pc := 36) O 1 dX0_become_36 rfl rfl ?_
    refine fr_get (pc := 37) (k := 3) (v := .ref (gad G (o + 1))) O cl_X0 m_82 (sC_rig hG ho) (by decide) rfl rfl dX0_become_37 ?_
    refine fr_iload_n (pc := 40) O 2 dX0_become_40 rfl rfl ?_
    have hi_41 := h.1
    have h := h.2
    refine fr_iald (pc := 41) O (sC_r1 hG ho) hi_41 dX0_become_41 ?_
    refine fr_iast (pc := 42) O (sC_r1 hG hb) hi_41 dX0_become_42 (fun σ42 e_σ42 => ?_)
    have h := h σ42 e_σ42
    refine fr_aload_n (pc := 43) O 0 dX0_become_43 rfl rfl ?_
    refine fr_get (pc := 44) (k := 4) (v := .ref (gad G (b + 2))) O cl_X0 m_84 (sC_rig hG hb) (by decide) rfl rfl dX0_become_44 ?_
    refine fr_iload_n (pc := 47) O 2 dX0_become_47 rfl rfl ?_
    refine fr_aload_n (pc := 48) O 1 dX0_become_48 rfl rfl ?_
    refine fr_get (pc := 49) (k := 4) (v := .ref (gad G (o + 2))) O cl_X0 m_84 (sC_rig hG ho) (by decide) rfl rfl dX0_become_49 ?_
    refine fr_iload_n (pc := 52) O 2 dX0_become_52 rfl rfl ?_
    refine fr_iald (pc := 53) O (sC_r2 hG ho) hi_41 dX0_become_53 ?_
    refine fr_iast (pc := 54) O (sC_r2 hG hb) hi_41 dX0_become_54 (fun σ54 e_σ54 => ?_)
    have h := h σ54 e_σ54
    refine fr_aload_n (pc := 55) O 0 dX0_become_55 rfl rfl ?_
    refine fr_get (pc := 56) (k := 5) (v := .ref (gad G (b + 3))) O cl_X0 m_86 (sC_rig hG hb) (by decide) rfl rfl dX0_become_56 ?_
    refine fr_iload_n (pc := 59) O 2 dX0_become_59 rfl rfl ?_
    refine fr_aload_n (pc := 60) O 1 dX0_become_60 rfl rfl ?_
    refine fr_get (pc := 61) (k := 5) (v := .ref (gad G (o + 3))) O cl_X0 m_86 (sC_rig hG ho) (by decide) rfl rfl dX0_become_61 ?_
    refine fr_iload_n (pc := 64) O 2 dX0_become_64 rfl rfl ?_
    refine fr_iald (pc := 65) O (sC_r3 hG ho) hi_41 dX0_become_65 ?_
    refine fr_iast (pc := 66) O (sC_r3 hG hb) hi_41 dX0_become_66 (fun σ66 e_σ66 => ?_)
    have h := h σ66 e_σ66
    refine fr_aload_n (pc := 67) O 0 dX0_become_67 rfl rfl ?_
    refine fr_get (pc := 68) (k := 6) (v := .ref (gad G (b + 4))) O cl_X0 m_88 (sC_rig hG hb) (by decide) rfl rfl dX0_become_68 ?_
    refine fr_iload_n (pc := 71) O 2 dX0_become_71 rfl rfl ?_
    refine fr_aload_n (pc := 72) O 1 dX0_become_72 rfl rfl ?_
    refine fr_get (pc := 73) (k := 6) (v := .ref (gad G (o + 4))) O cl_X0 m_88 (sC_rig hG ho) (by decide) rfl rfl dX0_become_73 ?_
    refine fr_iload_n (pc := 76) O 2 dX0_become_76 rfl rfl ?_
    refine fr_iald (pc := 77) O (sC_r4 hG ho) hi_41 dX0_become_77 ?_
    refine fr_iast (pc := 78) O (sC_r4 hG hb) hi_41 dX0_become_78 (fun σ78 e_σ78 => ?_)
    have h := h σ78 e_σ78
    refine fr_iinc (pc := 79) O 2 [1, 2, 0] (w := (1 : Int32)) (lvF := fun y2_79 => [(0, .ref (gad G b)), (1, .ref (gad G o)), (2, .int y2_79)]) dX0_become_79 rfl (by decide) (by decide) (fun _ => rfl) (fun y2_79 e_y2_79 => ?_)
    have h := h y2_79 e_y2_79
    refine fr_goto (pc := 82) (tgt := 26) O dX0_become_82 (by decide) ?_
    exact hk26 _ _ h
set_option maxRecDepth 20000 in
theorem kX0_become_L26w {X : Cx} {G : Gw} (hG : fw_IsC G) (O : fw_Ok X G cX0_become 3 RX0 0 0 none) {b : Nat} {o : Nat} {post : Mem → Prop} (hb : fw_rig b) (ho : fw_rig o)  {n9 : Nat} {x2 : Int32} {σ : Mem} (h : it1 (qX0_become_L26 b o post) n9 x2 σ) : fw_At X G 3 (fw_QV X G post) 26 [(0, .ref (gad G b)), (1, .ref (gad G o)), (2, .int x2)] [] σ :=
  it1_walk (T := fun x2 σ => fw_At X G 3 (fw_QV X G post) 26 [(0, .ref (gad G b)), (1, .ref (gad G o)), (2, .int x2)] [] σ) (fun k26 hk26 x2 σ h => kX0_become_L26 hG O hb ho hk26 h) n9 x2 σ h
def qX0_become (b : Nat) (o : Nat) (σ : Mem) (post : Mem → Prop) : Prop := (∀ σ5 : Mem, σ5 = up2 σ b 0 (σ o 0) → (∀ σ13 : Mem, σ13 = up2 σ5 b 1 (σ5 o 1) → (∀ σ21 : Mem, σ21 = up2 σ13 b 2 (σ13 o 2) → ∃ n9, it1 (qX0_become_L26 b o post) n9 (0 : Int32) σ21)))
set_option maxRecDepth 20000 in
theorem kX0_become {X : Cx} {G : Gw} (hG : fw_IsC G) (O : fw_Ok X G cX0_become 3 RX0 0 0 none) {b : Nat} {o : Nat} (hb : fw_rig b) (ho : fw_rig o) {σ : Mem} {post : Mem → Prop} (h : qX0_become b o σ post) : fw_At X G 3 (fw_QV X G post) 0 [(0, .ref (gad G b)), (1, .ref (gad G o))] [] σ := by
  unfold qX0_become at h
  refine fr_aload_n (pc := 0) O 0 dX0_become_0 rfl rfl ?_
  refine fr_aload_n (pc := 1) O 1 dX0_become_1 rfl rfl ?_
  refine fr_get (pc := 2) (k := 0) (v := .int (σ o 0)) O cl_X0 m_74 (sC_rig hG ho) (by decide) rfl rfl dX0_become_2 ?_
  refine fr_put (pc := 5) (k := 0) O cl_X0 m_74 (sC_rig hG hb) (by decide) rfl rfl rfl rfl (fun _ => Nat.le_of_ble_eq_true rfl) (fun _ => rfl) dX0_become_5 (fun σ5 e_σ5 => ?_)
  have h := h σ5 e_σ5
  refine fr_aload_n (pc := 8) O 0 dX0_become_8 rfl rfl ?_
  refine fr_aload_n (pc := 9) O 1 dX0_become_9 rfl rfl ?_
  refine fr_get (pc := 10) (k := 1) (v := .int (σ5 o 1)) O cl_X0 m_77 (sC_rig hG ho) (by decide) rfl rfl dX0_become_10 ?_
  refine fr_put (pc := 13) (k := 1) O cl_X0 m_77 (sC_rig hG hb) (by decide) rfl rfl rfl rfl (fun _ => Nat.le_of_ble_eq_true rfl) (fun _ => rfl) dX0_become_13 (fun σ13 e_σ13 => ?_)
  have h := h σ13 e_σ13
  refine fr_aload_n (pc := 16) O 0 dX0_become_16 rfl rfl ?_
  refine fr_aload_n (pc := 17) O 1 dX0_become_17 rfl rfl ?_
  refine fr_get (pc := 18) (k := 2) (v := .int (σ13 o 2)) O cl_X0 m_79 (sC_rig hG ho) (by decide) rfl rfl dX0_become_18 ?_
  refine fr_put (pc := 21) (k := 2) O cl_X0 m_79 (sC_rig hG hb) (by decide) rfl rfl rfl rfl (fun _ => Nat.le_of_ble_eq_true rfl) (fun _ => rfl) dX0_become_21 (fun σ21 e_σ21 => ?_)
  have h := h σ21 e_σ21
  refine fr_iconst (pc := 24) O (v := (0 : Int32)) dX0_become_24 (by decide) ?_
  refine fr_istore_n (pc := 25) O [1, 2, 0] (lv' := [(0, .ref (gad G b)), (1, .ref (gad G o)), (2, .int (0 : Int32))]) dX0_become_25 rfl (by decide) rfl ?_
  obtain ⟨n9, h⟩ := h
  exact kX0_become_L26w hG O hb ho h
theorem tX0_become (l : Launch) {G : Gw} (hG : fw_IsC G) {b : Nat} {o : Nat} (hb : fw_rig b) (ho : fw_rig o) {σ : Mem} {post : Mem → Prop} (h : qX0_become b o σ post) : fw_CV l G yX0_become cX0_become 3 0 0 [.ref (gad G b), .ref (gad G o)] σ post := fw_ofV (sok_C hG) (by decide) (Nat.le_of_ble_eq_true rfl) (fun X O => kX0_become hG O hb ho h)
def qX0_startAs (b : Nat) (o : Nat) (σ : Mem) (post : Mem → Prop) : Prop := (qX0_become b o σ (fun σ2 => (qX0_clearSums b σ2 (fun σ6 => post σ6))))
set_option maxRecDepth 20000 in
theorem kX0_startAs {X : Cx} {G : Gw} (hG : fw_IsC G) (O : fw_Ok X G cX0_startAs 2 RX0 1 22 none) {b : Nat} {o : Nat} (hb : fw_rig b) (ho : fw_rig o) {σ : Mem} {post : Mem → Prop} (h : qX0_startAs b o σ post) : fw_At X G 2 (fw_QV X G post) 0 [(0, .ref (gad G b)), (1, .ref (gad G o))] [] σ := by
  unfold qX0_startAs at h
  refine fr_aload_n (pc := 0) O 0 dX0_startAs_0 rfl rfl ?_
  refine fr_aload_n (pc := 1) O 1 dX0_startAs_1 rfl rfl ?_
  refine fr_callVV (pc := 2) (st := []) O (tX0_become X.2.1 hG hb ho h) mt_X0_become mv_X0_become m_517 cl_X0 rfl (sC_rig hG hb) rfl (by decide) rfl (Nat.le_of_ble_eq_true rfl) dX0_startAs_2 (fun σ2 h => ?_)
  refine fr_aload_n (pc := 5) O 0 dX0_startAs_5 rfl rfl ?_
  refine fr_callVV (pc := 6) (st := []) O (tX0_clearSums X.2.1 hG hb h) mt_X0_clearSums mv_X0_clearSums m_260 cl_X0 rfl (sC_rig hG hb) rfl (by decide) rfl (Nat.le_of_ble_eq_true rfl) dX0_startAs_6 (fun σ6 h => ?_)
  exact fr_vret (pc := 9) O dX0_startAs_9 h
theorem tX0_startAs (l : Launch) {G : Gw} (hG : fw_IsC G) {b : Nat} {o : Nat} (hb : fw_rig b) (ho : fw_rig o) {σ : Mem} {post : Mem → Prop} (h : qX0_startAs b o σ post) : fw_CV l G yX0_startAs cX0_startAs 2 1 22 [.ref (gad G b), .ref (gad G o)] σ post := fw_ofV (sok_C hG) (by decide) (Nat.le_of_ble_eq_true rfl) (fun X O => kX0_startAs hG O hb ho h)
def qX0_hasWheel_B17 (b : Nat) (a1 : Int32) (post : Int32 → Mem → Prop) (s0 : Int32) (σ : Mem) : Prop := (isB s0 ∧ post s0 σ)
set_option maxRecDepth 20000 in
theorem kX0_hasWheel_B17 {X : Cx} {G : Gw} (hG : fw_IsC G) (O : fw_Ok X G cX0_hasWheel 2 RX0 0 0 (some .boolean)) {b : Nat} {a1 : Int32} {post : Int32 → Mem → Prop} (hb : fw_rig b)  {s0 : Int32} {σ : Mem} (h : qX0_hasWheel_B17 b a1 post s0 σ) : fw_At X G 2 (fw_QI X G post) 17 [(0, .ref (gad G b)), (1, .int a1)] [.int s0] σ := by
  unfold qX0_hasWheel_B17 at h
  exact fr_zret (pc := 17) O dX0_hasWheel_17 h.1 h.2
def qX0_hasWheel_B16 (b : Nat) (a1 : Int32) (post : Int32 → Mem → Prop) (σ : Mem) : Prop := qX0_hasWheel_B17 b a1 post (0 : Int32) σ
set_option maxRecDepth 20000 in
theorem kX0_hasWheel_B16 {X : Cx} {G : Gw} (hG : fw_IsC G) (O : fw_Ok X G cX0_hasWheel 2 RX0 0 0 (some .boolean)) {b : Nat} {a1 : Int32} {post : Int32 → Mem → Prop} (hb : fw_rig b)   {σ : Mem} (h : qX0_hasWheel_B16 b a1 post σ) : fw_At X G 2 (fw_QI X G post) 16 [(0, .ref (gad G b)), (1, .int a1)] [] σ := by
  unfold qX0_hasWheel_B16 at h
  refine fr_iconst (pc := 16) O (v := (0 : Int32)) dX0_hasWheel_16 (by decide) ?_
  exact kX0_hasWheel_B17 hG O hb h
def qX0_hasWheel (b : Nat) (a1 : Int32) (σ : Mem) (post : Int32 → Mem → Prop) : Prop := ((a1 < 0 → qX0_hasWheel_B16 b a1 post σ) ∧ (¬ a1 < 0 → (((σ b 2) ≤ a1 → qX0_hasWheel_B16 b a1 post σ) ∧ (¬ (σ b 2) ≤ a1 → qX0_hasWheel_B17 b a1 post (1 : Int32) σ))))
set_option maxRecDepth 20000 in
theorem kX0_hasWheel {X : Cx} {G : Gw} (hG : fw_IsC G) (O : fw_Ok X G cX0_hasWheel 2 RX0 0 0 (some .boolean)) {b : Nat} {a1 : Int32} (hb : fw_rig b) {σ : Mem} {post : Int32 → Mem → Prop} (h : qX0_hasWheel b a1 σ post) : fw_At X G 2 (fw_QI X G post) 0 [(0, .ref (gad G b)), (1, .int a1)] [] σ := by
  unfold qX0_hasWheel at h
  refine fr_iload_n (pc := 0) O 1 dX0_hasWheel_0 rfl rfl ?_
  refine fr_if_lt (pc := 1) (tgt := 16) O dX0_hasWheel_1 (by decide) (fun c_1 => ?_) (fun c_1 => ?_)
  · have h := h.1 c_1
    exact kX0_hasWheel_B16 hG O hb h
  · have h := h.2 c_1
    refine fr_iload_n (pc := 4) O 1 dX0_hasWheel_4 rfl rfl ?_
    refine fr_aload_n (pc := 5) O 0 dX0_hasWheel_5 rfl rfl ?_
    refine fr_get (pc := 6) (k := 2) (v := .int (σ b 2)) O cl_X0 m_79 (sC_rig hG hb) (by decide) rfl rfl dX0_hasWheel_6 ?_
    refine fr_icmp_ge (pc := 9) (tgt := 16) O dX0_hasWheel_9 (by decide) (fun c_9 => ?_) (fun c_9 => ?_)
    · have h := h.1 c_9
      exact kX0_hasWheel_B16 hG O hb h
    · have h := h.2 c_9
      refine fr_iconst (pc := 12) O (v := (1 : Int32)) dX0_hasWheel_12 (by decide) ?_
      refine fr_goto (pc := 13) (tgt := 17) O dX0_hasWheel_13 (by decide) ?_
      exact kX0_hasWheel_B17 hG O hb h
theorem tX0_hasWheel (l : Launch) {G : Gw} (hG : fw_IsC G) {b : Nat} {a1 : Int32} (hb : fw_rig b) {σ : Mem} {post : Int32 → Mem → Prop} (h : qX0_hasWheel b a1 σ post) : fw_CI l G yX0_hasWheel cX0_hasWheel 2 .boolean 0 0 [.ref (gad G b), .int a1] σ post := fw_ofI (sok_C hG) (by decide) (Nat.le_of_ble_eq_true rfl) (fun X O => kX0_hasWheel hG O hb h)
def qX0_hasAct_B17 (b : Nat) (a1 : Int32) (post : Int32 → Mem → Prop) (s0 : Int32) (σ : Mem) : Prop := (isB s0 ∧ post s0 σ)
set_option maxRecDepth 20000 in
theorem kX0_hasAct_B17 {X : Cx} {G : Gw} (hG : fw_IsC G) (O : fw_Ok X G cX0_hasAct 2 RX0 0 0 (some .boolean)) {b : Nat} {a1 : Int32} {post : Int32 → Mem → Prop} (hb : fw_rig b)  {s0 : Int32} {σ : Mem} (h : qX0_hasAct_B17 b a1 post s0 σ) : fw_At X G 2 (fw_QI X G post) 17 [(0, .ref (gad G b)), (1, .int a1)] [.int s0] σ := by
  unfold qX0_hasAct_B17 at h
  exact fr_zret (pc := 17) O dX0_hasAct_17 h.1 h.2
def qX0_hasAct_B16 (b : Nat) (a1 : Int32) (post : Int32 → Mem → Prop) (σ : Mem) : Prop := qX0_hasAct_B17 b a1 post (0 : Int32) σ
set_option maxRecDepth 20000 in
theorem kX0_hasAct_B16 {X : Cx} {G : Gw} (hG : fw_IsC G) (O : fw_Ok X G cX0_hasAct 2 RX0 0 0 (some .boolean)) {b : Nat} {a1 : Int32} {post : Int32 → Mem → Prop} (hb : fw_rig b)   {σ : Mem} (h : qX0_hasAct_B16 b a1 post σ) : fw_At X G 2 (fw_QI X G post) 16 [(0, .ref (gad G b)), (1, .int a1)] [] σ := by
  unfold qX0_hasAct_B16 at h
  refine fr_iconst (pc := 16) O (v := (0 : Int32)) dX0_hasAct_16 (by decide) ?_
  exact kX0_hasAct_B17 hG O hb h
def qX0_hasAct (b : Nat) (a1 : Int32) (σ : Mem) (post : Int32 → Mem → Prop) : Prop := ((a1 < 0 → qX0_hasAct_B16 b a1 post σ) ∧ (¬ a1 < 0 → (((σ b 7) ≤ a1 → qX0_hasAct_B16 b a1 post σ) ∧ (¬ (σ b 7) ≤ a1 → qX0_hasAct_B17 b a1 post (1 : Int32) σ))))
set_option maxRecDepth 20000 in
theorem kX0_hasAct {X : Cx} {G : Gw} (hG : fw_IsC G) (O : fw_Ok X G cX0_hasAct 2 RX0 0 0 (some .boolean)) {b : Nat} {a1 : Int32} (hb : fw_rig b) {σ : Mem} {post : Int32 → Mem → Prop} (h : qX0_hasAct b a1 σ post) : fw_At X G 2 (fw_QI X G post) 0 [(0, .ref (gad G b)), (1, .int a1)] [] σ := by
  unfold qX0_hasAct at h
  refine fr_iload_n (pc := 0) O 1 dX0_hasAct_0 rfl rfl ?_
  refine fr_if_lt (pc := 1) (tgt := 16) O dX0_hasAct_1 (by decide) (fun c_1 => ?_) (fun c_1 => ?_)
  · have h := h.1 c_1
    exact kX0_hasAct_B16 hG O hb h
  · have h := h.2 c_1
    refine fr_iload_n (pc := 4) O 1 dX0_hasAct_4 rfl rfl ?_
    refine fr_aload_n (pc := 5) O 0 dX0_hasAct_5 rfl rfl ?_
    refine fr_get (pc := 6) (k := 7) (v := .int (σ b 7)) O cl_X0 m_90 (sC_rig hG hb) (by decide) rfl rfl dX0_hasAct_6 ?_
    refine fr_icmp_ge (pc := 9) (tgt := 16) O dX0_hasAct_9 (by decide) (fun c_9 => ?_) (fun c_9 => ?_)
    · have h := h.1 c_9
      exact kX0_hasAct_B16 hG O hb h
    · have h := h.2 c_9
      refine fr_iconst (pc := 12) O (v := (1 : Int32)) dX0_hasAct_12 (by decide) ?_
      refine fr_goto (pc := 13) (tgt := 17) O dX0_hasAct_13 (by decide) ?_
      exact kX0_hasAct_B17 hG O hb h
theorem tX0_hasAct (l : Launch) {G : Gw} (hG : fw_IsC G) {b : Nat} {a1 : Int32} (hb : fw_rig b) {σ : Mem} {post : Int32 → Mem → Prop} (h : qX0_hasAct b a1 σ post) : fw_CI l G yX0_hasAct cX0_hasAct 2 .boolean 0 0 [.ref (gad G b), .int a1] σ post := fw_ofI (sok_C hG) (by decide) (Nat.le_of_ble_eq_true rfl) (fun X O => kX0_hasAct hG O hb h)
def qX0_appendWheel (b : Nat) (a1 : Int32) (a2 : Int32) (a3 : Int32) (σ : Mem) (post : Int32 → Mem → Prop) : Prop := (((σ b 2) < (4 : Int32) → (vp_in (σ b 2) 4 ∧ (∀ σ20 : Mem, σ20 = up2 σ (b + 1) (σ b 2).toNatClampNeg a1 → (vp_in (σ20 b 2) 4 ∧ (∀ σ30 : Mem, σ30 = up2 σ20 (b + 2) (σ20 b 2).toNatClampNeg a2 → (vp_in (σ30 b 2) 4 ∧ (∀ σ40 : Mem, σ40 = up2 σ30 (b + 3) (σ30 b 2).toNatClampNeg a3 → (vp_in (σ40 b 2) 4 ∧ (∀ σ50 : Mem, σ50 = up2 σ40 (b + 4) (σ40 b 2).toNatClampNeg (0 : Int32) → (∀ σ58 : Mem, σ58 = up2 σ50 b 2 ((σ50 b 2) + (1 : Int32)) → post (σ58 b 2) σ58)))))))))) ∧ (¬ (σ b 2) < (4 : Int32) → post (-3 : Int32) σ))
set_option maxRecDepth 20000 in
theorem kX0_appendWheel {X : Cx} {G : Gw} (hG : fw_IsC G) (O : fw_Ok X G cX0_appendWheel 4 RX0 0 0 (some .int)) {b : Nat} {a1 : Int32} {a2 : Int32} {a3 : Int32} (hb : fw_rig b) {σ : Mem} {post : Int32 → Mem → Prop} (h : qX0_appendWheel b a1 a2 a3 σ post) : fw_At X G 4 (fw_QI X G post) 0 [(0, .ref (gad G b)), (1, .int a1), (2, .int a2), (3, .int a3)] [] σ := by
  unfold qX0_appendWheel at h
  refine fr_aload_n (pc := 0) O 0 dX0_appendWheel_0 rfl rfl ?_
  refine fr_get (pc := 1) (k := 2) (v := .int (σ b 2)) O cl_X0 m_79 (sC_rig hG hb) (by decide) rfl rfl dX0_appendWheel_1 ?_
  refine fr_iconst (pc := 4) O (v := (4 : Int32)) dX0_appendWheel_4 (by decide) ?_
  refine fr_icmp_lt (pc := 5) (tgt := 11) O dX0_appendWheel_5 (by decide) (fun c_5 => ?_) (fun c_5 => ?_)
  · have h := h.1 c_5
    refine fr_aload_n (pc := 11) O 0 dX0_appendWheel_11 rfl rfl ?_
    refine fr_get (pc := 12) (k := 3) (v := .ref (gad G (b + 1))) O cl_X0 m_82 (sC_rig hG hb) (by decide) rfl rfl dX0_appendWheel_12 ?_
    refine fr_aload_n (pc := 15) O 0 dX0_appendWheel_15 rfl rfl ?_
    refine fr_get (pc := 16) (k := 2) (v := .int (σ b 2)) O cl_X0 m_79 (sC_rig hG hb) (by decide) rfl rfl dX0_appendWheel_16 ?_
    refine fr_iload_n (pc := 19) O 1 dX0_appendWheel_19 rfl rfl ?_
    have hi_20 := h.1
    have h := h.2
    refine fr_iast (pc := 20) O (sC_r1 hG hb) hi_20 dX0_appendWheel_20 (fun σ20 e_σ20 => ?_)
    have h := h σ20 e_σ20
    refine fr_aload_n (pc := 21) O 0 dX0_appendWheel_21 rfl rfl ?_
    refine fr_get (pc := 22) (k := 4) (v := .ref (gad G (b + 2))) O cl_X0 m_84 (sC_rig hG hb) (by decide) rfl rfl dX0_appendWheel_22 ?_
    refine fr_aload_n (pc := 25) O 0 dX0_appendWheel_25 rfl rfl ?_
    refine fr_get (pc := 26) (k := 2) (v := .int (σ20 b 2)) O cl_X0 m_79 (sC_rig hG hb) (by decide) rfl rfl dX0_appendWheel_26 ?_
    refine fr_iload_n (pc := 29) O 2 dX0_appendWheel_29 rfl rfl ?_
    have hi_30 := h.1
    have h := h.2
    refine fr_iast (pc := 30) O (sC_r2 hG hb) hi_30 dX0_appendWheel_30 (fun σ30 e_σ30 => ?_)
    have h := h σ30 e_σ30
    refine fr_aload_n (pc := 31) O 0 dX0_appendWheel_31 rfl rfl ?_
    refine fr_get (pc := 32) (k := 5) (v := .ref (gad G (b + 3))) O cl_X0 m_86 (sC_rig hG hb) (by decide) rfl rfl dX0_appendWheel_32 ?_
    refine fr_aload_n (pc := 35) O 0 dX0_appendWheel_35 rfl rfl ?_
    refine fr_get (pc := 36) (k := 2) (v := .int (σ30 b 2)) O cl_X0 m_79 (sC_rig hG hb) (by decide) rfl rfl dX0_appendWheel_36 ?_
    refine fr_iload_n (pc := 39) O 3 dX0_appendWheel_39 rfl rfl ?_
    have hi_40 := h.1
    have h := h.2
    refine fr_iast (pc := 40) O (sC_r3 hG hb) hi_40 dX0_appendWheel_40 (fun σ40 e_σ40 => ?_)
    have h := h σ40 e_σ40
    refine fr_aload_n (pc := 41) O 0 dX0_appendWheel_41 rfl rfl ?_
    refine fr_get (pc := 42) (k := 6) (v := .ref (gad G (b + 4))) O cl_X0 m_88 (sC_rig hG hb) (by decide) rfl rfl dX0_appendWheel_42 ?_
    refine fr_aload_n (pc := 45) O 0 dX0_appendWheel_45 rfl rfl ?_
    refine fr_get (pc := 46) (k := 2) (v := .int (σ40 b 2)) O cl_X0 m_79 (sC_rig hG hb) (by decide) rfl rfl dX0_appendWheel_46 ?_
    refine fr_iconst (pc := 49) O (v := (0 : Int32)) dX0_appendWheel_49 (by decide) ?_
    have hi_50 := h.1
    have h := h.2
    refine fr_iast (pc := 50) O (sC_r4 hG hb) hi_50 dX0_appendWheel_50 (fun σ50 e_σ50 => ?_)
    have h := h σ50 e_σ50
    refine fr_aload_n (pc := 51) O 0 dX0_appendWheel_51 rfl rfl ?_
    refine fr_dup (pc := 52) O dX0_appendWheel_52 rfl ?_
    refine fr_get (pc := 53) (k := 2) (v := .int (σ50 b 2)) O cl_X0 m_79 (sC_rig hG hb) (by decide) rfl rfl dX0_appendWheel_53 ?_
    refine fr_iconst (pc := 56) O (v := (1 : Int32)) dX0_appendWheel_56 (by decide) ?_
    refine fr_iadd (pc := 57) O dX0_appendWheel_57 ?_
    refine fr_put (pc := 58) (k := 2) O cl_X0 m_79 (sC_rig hG hb) (by decide) rfl rfl rfl rfl (fun _ => Nat.le_of_ble_eq_true rfl) (fun _ => rfl) dX0_appendWheel_58 (fun σ58 e_σ58 => ?_)
    have h := h σ58 e_σ58
    refine fr_aload_n (pc := 61) O 0 dX0_appendWheel_61 rfl rfl ?_
    refine fr_get (pc := 62) (k := 2) (v := .int (σ58 b 2)) O cl_X0 m_79 (sC_rig hG hb) (by decide) rfl rfl dX0_appendWheel_62 ?_
    exact fr_iret (pc := 65) O dX0_appendWheel_65 h
  · have h := h.2 c_5
    refine fr_bipush (pc := 8) O (v := (-3 : Int32)) dX0_appendWheel_8 (by decide) ?_
    exact fr_iret (pc := 10) O dX0_appendWheel_10 h
theorem tX0_appendWheel (l : Launch) {G : Gw} (hG : fw_IsC G) {b : Nat} {a1 : Int32} {a2 : Int32} {a3 : Int32} (hb : fw_rig b) {σ : Mem} {post : Int32 → Mem → Prop} (h : qX0_appendWheel b a1 a2 a3 σ post) : fw_CI l G yX0_appendWheel cX0_appendWheel 4 .int 0 0 [.ref (gad G b), .int a1, .int a2, .int a3] σ post := fw_ofI (sok_C hG) (by decide) (Nat.le_of_ble_eq_true rfl) (fun X O => kX0_appendWheel hG O hb h)
def qX0_appendAct (b : Nat) (a1 : Int32) (σ : Mem) (post : Int32 → Mem → Prop) : Prop := (((σ b 7) < (16 : Int32) → (vp_in (σ b 7) 16 ∧ (∀ σ21 : Mem, σ21 = up2 σ (b + 5) (σ b 7).toNatClampNeg a1 → (∀ σ29 : Mem, σ29 = up2 σ21 b 7 ((σ21 b 7) + (1 : Int32)) → post (σ29 b 7) σ29)))) ∧ (¬ (σ b 7) < (16 : Int32) → post (-3 : Int32) σ))
set_option maxRecDepth 20000 in
theorem kX0_appendAct {X : Cx} {G : Gw} (hG : fw_IsC G) (O : fw_Ok X G cX0_appendAct 2 RX0 0 0 (some .int)) {b : Nat} {a1 : Int32} (hb : fw_rig b) {σ : Mem} {post : Int32 → Mem → Prop} (h : qX0_appendAct b a1 σ post) : fw_At X G 2 (fw_QI X G post) 0 [(0, .ref (gad G b)), (1, .int a1)] [] σ := by
  unfold qX0_appendAct at h
  refine fr_aload_n (pc := 0) O 0 dX0_appendAct_0 rfl rfl ?_
  refine fr_get (pc := 1) (k := 7) (v := .int (σ b 7)) O cl_X0 m_90 (sC_rig hG hb) (by decide) rfl rfl dX0_appendAct_1 ?_
  refine fr_bipush (pc := 4) O (v := (16 : Int32)) dX0_appendAct_4 (by decide) ?_
  refine fr_icmp_lt (pc := 6) (tgt := 12) O dX0_appendAct_6 (by decide) (fun c_6 => ?_) (fun c_6 => ?_)
  · have h := h.1 c_6
    refine fr_aload_n (pc := 12) O 0 dX0_appendAct_12 rfl rfl ?_
    refine fr_get (pc := 13) (k := 8) (v := .ref (gad G (b + 5))) O cl_X0 m_93 (sC_rig hG hb) (by decide) rfl rfl dX0_appendAct_13 ?_
    refine fr_aload_n (pc := 16) O 0 dX0_appendAct_16 rfl rfl ?_
    refine fr_get (pc := 17) (k := 7) (v := .int (σ b 7)) O cl_X0 m_90 (sC_rig hG hb) (by decide) rfl rfl dX0_appendAct_17 ?_
    refine fr_iload_n (pc := 20) O 1 dX0_appendAct_20 rfl rfl ?_
    have hi_21 := h.1
    have h := h.2
    refine fr_iast (pc := 21) O (sC_r5 hG hb) hi_21 dX0_appendAct_21 (fun σ21 e_σ21 => ?_)
    have h := h σ21 e_σ21
    refine fr_aload_n (pc := 22) O 0 dX0_appendAct_22 rfl rfl ?_
    refine fr_dup (pc := 23) O dX0_appendAct_23 rfl ?_
    refine fr_get (pc := 24) (k := 7) (v := .int (σ21 b 7)) O cl_X0 m_90 (sC_rig hG hb) (by decide) rfl rfl dX0_appendAct_24 ?_
    refine fr_iconst (pc := 27) O (v := (1 : Int32)) dX0_appendAct_27 (by decide) ?_
    refine fr_iadd (pc := 28) O dX0_appendAct_28 ?_
    refine fr_put (pc := 29) (k := 7) O cl_X0 m_90 (sC_rig hG hb) (by decide) rfl rfl rfl rfl (fun _ => Nat.le_of_ble_eq_true rfl) (fun _ => rfl) dX0_appendAct_29 (fun σ29 e_σ29 => ?_)
    have h := h σ29 e_σ29
    refine fr_aload_n (pc := 32) O 0 dX0_appendAct_32 rfl rfl ?_
    refine fr_get (pc := 33) (k := 7) (v := .int (σ29 b 7)) O cl_X0 m_90 (sC_rig hG hb) (by decide) rfl rfl dX0_appendAct_33 ?_
    exact fr_iret (pc := 36) O dX0_appendAct_36 h
  · have h := h.2 c_6
    refine fr_bipush (pc := 9) O (v := (-3 : Int32)) dX0_appendAct_9 (by decide) ?_
    exact fr_iret (pc := 11) O dX0_appendAct_11 h
theorem tX0_appendAct (l : Launch) {G : Gw} (hG : fw_IsC G) {b : Nat} {a1 : Int32} (hb : fw_rig b) {σ : Mem} {post : Int32 → Mem → Prop} (h : qX0_appendAct b a1 σ post) : fw_CI l G yX0_appendAct cX0_appendAct 2 .int 0 0 [.ref (gad G b), .int a1] σ post := fw_ofI (sok_C hG) (by decide) (Nat.le_of_ble_eq_true rfl) (fun X O => kX0_appendAct hG O hb h)
def qX3_quotient_B11 (a0 : Int32) (a1 : Int32) (post : Int32 → Mem → Prop) (s0 : Int32) (σ : Mem) : Prop := post s0 σ
set_option maxRecDepth 20000 in
theorem kX3_quotient_B11 {X : Cx} {G : Gw} (hG : fw_IsC G) (O : fw_Ok X G cX3_quotient 2 RX3 0 0 (some .int)) {a0 : Int32} {a1 : Int32} {post : Int32 → Mem → Prop}   {s0 : Int32} {σ : Mem} (h : qX3_quotient_B11 a0 a1 post s0 σ) : fw_At X G 2 (fw_QI X G post) 11 [(0, .int a0), (1, .int a1)] [.int s0] σ := by
  unfold qX3_quotient_B11 at h
  exact fr_iret (pc := 11) O dX3_quotient_11 h
def qX3_quotient (a0 : Int32) (a1 : Int32) (σ : Mem) (post : Int32 → Mem → Prop) : Prop := ((a1 ≤ 0 → qX3_quotient_B11 a0 a1 post (0 : Int32) σ) ∧ (¬ a1 ≤ 0 → (¬ a1 = 0 ∧ qX3_quotient_B11 a0 a1 post (a0 / a1) σ)))
set_option maxRecDepth 20000 in
theorem kX3_quotient {X : Cx} {G : Gw} (hG : fw_IsC G) (O : fw_Ok X G cX3_quotient 2 RX3 0 0 (some .int)) {a0 : Int32} {a1 : Int32}  {σ : Mem} {post : Int32 → Mem → Prop} (h : qX3_quotient a0 a1 σ post) : fw_At X G 2 (fw_QI X G post) 0 [(0, .int a0), (1, .int a1)] [] σ := by
  unfold qX3_quotient at h
  refine fr_iload_n (pc := 0) O 1 dX3_quotient_0 rfl rfl ?_
  refine fr_if_le (pc := 1) (tgt := 10) O dX3_quotient_1 (by decide) (fun c_1 => ?_) (fun c_1 => ?_)
  · have h := h.1 c_1
    refine fr_iconst (pc := 10) O (v := (0 : Int32)) dX3_quotient_10 (by decide) ?_
    exact kX3_quotient_B11 hG O  h
  · have h := h.2 c_1
    refine fr_iload_n (pc := 4) O 0 dX3_quotient_4 rfl rfl ?_
    refine fr_iload_n (pc := 5) O 1 dX3_quotient_5 rfl rfl ?_
    refine fr_idiv (pc := 6) O h.1 dX3_quotient_6 ?_
    have h := h.2
    refine fr_goto (pc := 7) (tgt := 11) O dX3_quotient_7 (by decide) ?_
    exact kX3_quotient_B11 hG O  h
theorem tX3_quotient (l : Launch) {G : Gw} (hG : fw_IsC G) {a0 : Int32} {a1 : Int32}  {σ : Mem} {post : Int32 → Mem → Prop} (h : qX3_quotient a0 a1 σ post) : fw_CI l G yX3_quotient cX3_quotient 2 .int 0 0 [.int a0, .int a1] σ post := fw_ofI (sok_C hG) (by decide) (Nat.le_of_ble_eq_true rfl) (fun X O => kX3_quotient hG O  h)
def qX0_shaftSpeed (b : Nat) (σ : Mem) (post : Int32 → Mem → Prop) : Prop := (qX3_quotient (σ b 1) (σ b 0) σ (fun r8 σ8 => post r8 σ8))
set_option maxRecDepth 20000 in
theorem kX0_shaftSpeed {X : Cx} {G : Gw} (hG : fw_IsC G) (O : fw_Ok X G cX0_shaftSpeed 1 RX0 1 21 (some .int)) {b : Nat} (hb : fw_rig b) {σ : Mem} {post : Int32 → Mem → Prop} (h : qX0_shaftSpeed b σ post) : fw_At X G 1 (fw_QI X G post) 0 [(0, .ref (gad G b))] [] σ := by
  unfold qX0_shaftSpeed at h
  refine fr_aload_n (pc := 0) O 0 dX0_shaftSpeed_0 rfl rfl ?_
  refine fr_get (pc := 1) (k := 1) (v := .int (σ b 1)) O cl_X0 m_77 (sC_rig hG hb) (by decide) rfl rfl dX0_shaftSpeed_1 ?_
  refine fr_aload_n (pc := 4) O 0 dX0_shaftSpeed_4 rfl rfl ?_
  refine fr_get (pc := 5) (k := 0) (v := .int (σ b 0)) O cl_X0 m_74 (sC_rig hG hb) (by decide) rfl rfl dX0_shaftSpeed_5 ?_
  refine fr_callNI (pc := 8) (st := []) O (tX3_quotient X.2.1 hG  h) mt_X3_quotient m_403 (sC_nest_quotient hG O.2.2.1) rfl (by decide) rfl (Nat.le_of_ble_eq_true rfl) dX0_shaftSpeed_8 (fun r8 σ8 h => ?_)
  exact fr_iret (pc := 11) O dX0_shaftSpeed_11 h
theorem tX0_shaftSpeed (l : Launch) {G : Gw} (hG : fw_IsC G) {b : Nat} (hb : fw_rig b) {σ : Mem} {post : Int32 → Mem → Prop} (h : qX0_shaftSpeed b σ post) : fw_CI l G yX0_shaftSpeed cX0_shaftSpeed 1 .int 1 21 [.ref (gad G b)] σ post := fw_ofI (sok_C hG) (by decide) (Nat.le_of_ble_eq_true rfl) (fun X O => kX0_shaftSpeed hG O hb h)
def qX0_sumOfWheels_L4 (b : Nat) (c : Nat) (n : Nat) (post : Int32 → Mem → Prop) (k4 : Int32 → Int32 → Mem → Prop) (x2 : Int32) (x3 : Int32) (σ : Mem) : Prop := (((σ b 2) ≤ x3 → post x2 σ) ∧ (¬ (σ b 2) ≤ x3 → (vp_in x3 n ∧ (∀ y2_17 : Int32, y2_17 = x2 + (σ c x3.toNatClampNeg) → (∀ y3_18 : Int32, y3_18 = x3 + (1 : Int32) → k4 y2_17 y3_18 σ)))))
set_option maxRecDepth 20000 in
theorem kX0_sumOfWheels_L4 {X : Cx} {G : Gw} (hG : fw_IsC G) (O : fw_Ok X G cX0_sumOfWheels 4 RX0 0 0 (some .int)) {b : Nat} {c : Nat} {n : Nat} {post : Int32 → Mem → Prop} {k4 : Int32 → Int32 → Mem → Prop} (hb : fw_rig b) (ha : fw_Ar G .int c n) (hk4 : ∀ (x2 : Int32) (x3 : Int32) (σ : Mem), k4 x2 x3 σ → fw_At X G 4 (fw_QI X G post) 4 [(0, .ref (gad G b)), (1, .ref (gad G c)), (2, .int x2), (3, .int x3)] [] σ) {x2 : Int32} {x3 : Int32} {σ : Mem} (h : qX0_sumOfWheels_L4 b c n post k4 x2 x3 σ) : fw_At X G 4 (fw_QI X G post) 4 [(0, .ref (gad G b)), (1, .ref (gad G c)), (2, .int x2), (3, .int x3)] [] σ := by
  unfold qX0_sumOfWheels_L4 at h
  refine fr_iload_n (pc := 4) O 3 dX0_sumOfWheels_4 rfl rfl ?_
  refine fr_aload_n (pc := 5) O 0 dX0_sumOfWheels_5 rfl rfl ?_
  refine fr_get (pc := 6) (k := 2) (v := .int (σ b 2)) O cl_X0 m_79 (sC_rig hG hb) (by decide) rfl rfl dX0_sumOfWheels_6 ?_
  refine fr_icmp_ge (pc := 9) (tgt := 24) O dX0_sumOfWheels_9 (by decide) (fun c_9 => ?_) (fun c_9 => ?_)
  · have h := h.1 c_9
    refine fr_iload_n (pc := 24) O 2 dX0_sumOfWheels_24 rfl rfl ?_
    exact fr_iret (pc := 25) O dX0_sumOfWheels_25 h
  · have h := h.2 c_9
    refine fr_iload_n (pc := 12) O 2 dX0_sumOfWheels_12 rfl rfl ?_
    refine fr_aload_n (pc := 13) O 1 dX0_sumOfWheels_13 rfl rfl ?_
    refine fr_iload_n (pc := 14) O 3 dX0_sumOfWheels_14 rfl rfl ?_
    have hi_15 := h.1
    have h := h.2
    refine fr_iald (pc := 15) O ha hi_15 dX0_sumOfWheels_15 ?_
    refine fr_iadd (pc := 16) O dX0_sumOfWheels_16 ?_
    refine fr_nm (fun y2_17 e_y2_17 => ?_)
    have h := h y2_17 e_y2_17
    refine fr_istore_n (pc := 17) O [1, 2, 0, 3] (lv' := [(0, .ref (gad G b)), (1, .ref (gad G c)), (2, .int y2_17), (3, .int x3)]) dX0_sumOfWheels_17 rfl (by decide) rfl ?_
    refine fr_iinc (pc := 18) O 3 [1, 2, 3, 0] (w := (1 : Int32)) (lvF := fun y3_18 => [(0, .ref (gad G b)), (1, .ref (gad G c)), (2, .int y2_17), (3, .int y3_18)]) dX0_sumOfWheels_18 rfl (by decide) (by decide) (fun _ => rfl) (fun y3_18 e_y3_18 => ?_)
    have h := h y3_18 e_y3_18
    refine fr_goto (pc := 21) (tgt := 4) O dX0_sumOfWheels_21 (by decide) ?_
    exact hk4 _ _ _ h
set_option maxRecDepth 20000 in
theorem kX0_sumOfWheels_L4w {X : Cx} {G : Gw} (hG : fw_IsC G) (O : fw_Ok X G cX0_sumOfWheels 4 RX0 0 0 (some .int)) {b : Nat} {c : Nat} {n : Nat} {post : Int32 → Mem → Prop} (hb : fw_rig b) (ha : fw_Ar G .int c n)  {n9 : Nat} {x2 : Int32} {x3 : Int32} {σ : Mem} (h : it2 (qX0_sumOfWheels_L4 b c n post) n9 x2 x3 σ) : fw_At X G 4 (fw_QI X G post) 4 [(0, .ref (gad G b)), (1, .ref (gad G c)), (2, .int x2), (3, .int x3)] [] σ :=
  it2_walk (T := fun x2 x3 σ => fw_At X G 4 (fw_QI X G post) 4 [(0, .ref (gad G b)), (1, .ref (gad G c)), (2, .int x2), (3, .int x3)] [] σ) (fun k4 hk4 x2 x3 σ h => kX0_sumOfWheels_L4 hG O hb ha hk4 h) n9 x2 x3 σ h
def qX0_sumOfWheels (b : Nat) (c : Nat) (n : Nat) (σ : Mem) (post : Int32 → Mem → Prop) : Prop := ∃ n9, it2 (qX0_sumOfWheels_L4 b c n post) n9 (0 : Int32) (0 : Int32) σ
set_option maxRecDepth 20000 in
theorem kX0_sumOfWheels {X : Cx} {G : Gw} (hG : fw_IsC G) (O : fw_Ok X G cX0_sumOfWheels 4 RX0 0 0 (some .int)) {b : Nat} {c : Nat} {n : Nat} (hb : fw_rig b) (ha : fw_Ar G .int c n) {σ : Mem} {post : Int32 → Mem → Prop} (h : qX0_sumOfWheels b c n σ post) : fw_At X G 4 (fw_QI X G post) 0 [(0, .ref (gad G b)), (1, .ref (gad G c))] [] σ := by
  unfold qX0_sumOfWheels at h
  refine fr_iconst (pc := 0) O (v := (0 : Int32)) dX0_sumOfWheels_0 (by decide) ?_
  refine fr_istore_n (pc := 1) O [1, 2, 0] (lv' := [(0, .ref (gad G b)), (1, .ref (gad G c)), (2, .int (0 : Int32))]) dX0_sumOfWheels_1 rfl (by decide) rfl ?_
  refine fr_iconst (pc := 2) O (v := (0 : Int32)) dX0_sumOfWheels_2 (by decide) ?_
  refine fr_istore_n (pc := 3) O [1, 2, 3, 0] (lv' := [(0, .ref (gad G b)), (1, .ref (gad G c)), (2, .int (0 : Int32)), (3, .int (0 : Int32))]) dX0_sumOfWheels_3 rfl (by decide) rfl ?_
  obtain ⟨n9, h⟩ := h
  exact kX0_sumOfWheels_L4w hG O hb ha h
theorem tX0_sumOfWheels (l : Launch) {G : Gw} (hG : fw_IsC G) {b : Nat} {c : Nat} {n : Nat} (hb : fw_rig b) (ha : fw_Ar G .int c n) {σ : Mem} {post : Int32 → Mem → Prop} (h : qX0_sumOfWheels b c n σ post) : fw_CI l G yX0_sumOfWheels cX0_sumOfWheels 4 .int 0 0 [.ref (gad G b), .ref (gad G c)] σ post := fw_ofI (sok_C hG) (by decide) (Nat.le_of_ble_eq_true rfl) (fun X O => kX0_sumOfWheels hG O hb ha h)
def qX0_allSwing (b : Nat) (σ : Mem) (post : Int32 → Mem → Prop) : Prop := (qX0_sumOfWheels b (b + 4) 4 σ (fun r9 σ9 => post ((σ b 1) + r9) σ9))
set_option maxRecDepth 20000 in
theorem kX0_allSwing {X : Cx} {G : Gw} (hG : fw_IsC G) (O : fw_Ok X G cX0_allSwing 1 RX0 1 23 (some .int)) {b : Nat} (hb : fw_rig b) {σ : Mem} {post : Int32 → Mem → Prop} (h : qX0_allSwing b σ post) : fw_At X G 1 (fw_QI X G post) 0 [(0, .ref (gad G b))] [] σ := by
  unfold qX0_allSwing at h
  refine fr_aload_n (pc := 0) O 0 dX0_allSwing_0 rfl rfl ?_
  refine fr_get (pc := 1) (k := 1) (v := .int (σ b 1)) O cl_X0 m_77 (sC_rig hG hb) (by decide) rfl rfl dX0_allSwing_1 ?_
  refine fr_aload_n (pc := 4) O 0 dX0_allSwing_4 rfl rfl ?_
  refine fr_aload_n (pc := 5) O 0 dX0_allSwing_5 rfl rfl ?_
  refine fr_get (pc := 6) (k := 6) (v := .ref (gad G (b + 4))) O cl_X0 m_88 (sC_rig hG hb) (by decide) rfl rfl dX0_allSwing_6 ?_
  refine fr_callVI (pc := 9) (st := [.int (σ b 1)]) O (tX0_sumOfWheels X.2.1 hG hb (sC_r4 hG hb) h) mt_X0_sumOfWheels mv_X0_sumOfWheels m_524 cl_X0 rfl (sC_rig hG hb) rfl (by decide) rfl (Nat.le_of_ble_eq_true rfl) dX0_allSwing_9 (fun r9 σ9 h => ?_)
  refine fr_iadd (pc := 12) O dX0_allSwing_12 ?_
  exact fr_iret (pc := 13) O dX0_allSwing_13 h
theorem tX0_allSwing (l : Launch) {G : Gw} (hG : fw_IsC G) {b : Nat} (hb : fw_rig b) {σ : Mem} {post : Int32 → Mem → Prop} (h : qX0_allSwing b σ post) : fw_CI l G yX0_allSwing cX0_allSwing 1 .int 1 23 [.ref (gad G b)] σ post := fw_ofI (sok_C hG) (by decide) (Nat.le_of_ble_eq_true rfl) (fun X O => kX0_allSwing hG O hb h)
def qX0_swingsAs_B22 (b : Nat) (o : Nat) (post : Int32 → Mem → Prop) (σ : Mem) : Prop := post (0 : Int32) σ
set_option maxRecDepth 20000 in
theorem kX0_swingsAs_B22 {X : Cx} {G : Gw} (hG : fw_IsC G) (O : fw_Ok X G cX0_swingsAs 3 RX0 0 0 (some .boolean)) {b : Nat} {o : Nat} {post : Int32 → Mem → Prop} (hb : fw_rig b) (ho : fw_rig o)   {σ : Mem} (h : qX0_swingsAs_B22 b o post σ) : fw_At X G 3 (fw_QI X G post) 22 [(0, .ref (gad G b)), (1, .ref (gad G o))] [] σ := by
  unfold qX0_swingsAs_B22 at h
  refine fr_iconst (pc := 22) O (v := (0 : Int32)) dX0_swingsAs_22 (by decide) ?_
  exact fr_zret (pc := 23) O dX0_swingsAs_23 isB_0 h
def qX0_swingsAs_L26 (b : Nat) (o : Nat) (post : Int32 → Mem → Prop) (k26 : Int32 → Mem → Prop) (x2 : Int32) (σ : Mem) : Prop := (((σ b 2) ≤ x2 → post (1 : Int32) σ) ∧ (¬ (σ b 2) ≤ x2 → (vp_in x2 4 ∧ (((σ (b + 4) x2.toNatClampNeg) = (σ (o + 4) x2.toNatClampNeg) → (∀ y2_51 : Int32, y2_51 = x2 + (1 : Int32) → k26 y2_51 σ)) ∧ (¬ (σ (b + 4) x2.toNatClampNeg) = (σ (o + 4) x2.toNatClampNeg) → post (0 : Int32) σ)))))
set_option maxRecDepth 20000 in
theorem kX0_swingsAs_L26 {X : Cx} {G : Gw} (hG : fw_IsC G) (O : fw_Ok X G cX0_swingsAs 3 RX0 0 0 (some .boolean)) {b : Nat} {o : Nat} {post : Int32 → Mem → Prop} {k26 : Int32 → Mem → Prop} (hb : fw_rig b) (ho : fw_rig o) (hk26 : ∀ (x2 : Int32) (σ : Mem), k26 x2 σ → fw_At X G 3 (fw_QI X G post) 26 [(0, .ref (gad G b)), (1, .ref (gad G o)), (2, .int x2)] [] σ) {x2 : Int32} {σ : Mem} (h : qX0_swingsAs_L26 b o post k26 x2 σ) : fw_At X G 3 (fw_QI X G post) 26 [(0, .ref (gad G b)), (1, .ref (gad G o)), (2, .int x2)] [] σ := by
  unfold qX0_swingsAs_L26 at h
  refine fr_iload_n (pc := 26) O 2 dX0_swingsAs_26 rfl rfl ?_
  refine fr_aload_n (pc := 27) O 0 dX0_swingsAs_27 rfl rfl ?_
  refine fr_get (pc := 28) (k := 2) (v := .int (σ b 2)) O cl_X0 m_79 (sC_rig hG hb) (by decide) rfl rfl dX0_swingsAs_28 ?_
  refine fr_icmp_ge (pc := 31) (tgt := 57) O dX0_swingsAs_31 (by decide) (fun c_31 => ?_) (fun c_31 => ?_)
  · have h := h.1 c_31
    refine fr_iconst (pc := 57) O (v := (1 : Int32)) dX0_swingsAs_57 (by decide) ?_
    exact fr_zret (pc := 58) O dX0_swingsAs_58 isB_1 h
  · have h := h.2 c_31
    refine fr_aload_n (pc := 34) O 0 dX0_swingsAs_34 rfl rfl ?_
    refine fr_get (pc := 35) (k := 6) (v := .ref (gad G (b + 4))) O cl_X0 m_88 (sC_rig hG hb) (by decide) rfl rfl dX0_swingsAs_35 ?_
    refine fr_iload_n (pc := 38) O 2 dX0_swingsAs_38 rfl rfl ?_
    have hi_39 := h.1
    have h := h.2
    refine fr_iald (pc := 39) O (sC_r4 hG hb) hi_39 dX0_swingsAs_39 ?_
    refine fr_aload_n (pc := 40) O 1 dX0_swingsAs_40 rfl rfl ?_
    refine fr_get (pc := 41) (k := 6) (v := .ref (gad G (o + 4))) O cl_X0 m_88 (sC_rig hG ho) (by decide) rfl rfl dX0_swingsAs_41 ?_
    refine fr_iload_n (pc := 44) O 2 dX0_swingsAs_44 rfl rfl ?_
    refine fr_iald (pc := 45) O (sC_r4 hG ho) hi_39 dX0_swingsAs_45 ?_
    refine fr_icmp_eq (pc := 46) (tgt := 51) O dX0_swingsAs_46 (by decide) (fun c_46 => ?_) (fun c_46 => ?_)
    · have h := h.1 c_46
      refine fr_iinc (pc := 51) O 2 [1, 2, 0] (w := (1 : Int32)) (lvF := fun y2_51 => [(0, .ref (gad G b)), (1, .ref (gad G o)), (2, .int y2_51)]) dX0_swingsAs_51 rfl (by decide) (by decide) (fun _ => rfl) (fun y2_51 e_y2_51 => ?_)
      have h := h y2_51 e_y2_51
      refine fr_goto (pc := 54) (tgt := 26) O dX0_swingsAs_54 (by decide) ?_
      exact hk26 _ _ h
    · have h := h.2 c_46
      refine fr_iconst (pc := 49) O (v := (0 : Int32)) dX0_swingsAs_49 (by decide) ?_
      exact fr_zret (pc := 50) O dX0_swingsAs_50 isB_0 h
set_option maxRecDepth 20000 in
theorem kX0_swingsAs_L26w {X : Cx} {G : Gw} (hG : fw_IsC G) (O : fw_Ok X G cX0_swingsAs 3 RX0 0 0 (some .boolean)) {b : Nat} {o : Nat} {post : Int32 → Mem → Prop} (hb : fw_rig b) (ho : fw_rig o)  {n9 : Nat} {x2 : Int32} {σ : Mem} (h : it1 (qX0_swingsAs_L26 b o post) n9 x2 σ) : fw_At X G 3 (fw_QI X G post) 26 [(0, .ref (gad G b)), (1, .ref (gad G o)), (2, .int x2)] [] σ :=
  it1_walk (T := fun x2 σ => fw_At X G 3 (fw_QI X G post) 26 [(0, .ref (gad G b)), (1, .ref (gad G o)), (2, .int x2)] [] σ) (fun k26 hk26 x2 σ h => kX0_swingsAs_L26 hG O hb ho hk26 h) n9 x2 σ h
def qX0_swingsAs (b : Nat) (o : Nat) (σ : Mem) (post : Int32 → Mem → Prop) : Prop := ((¬ (σ b 1) = (σ o 1) → qX0_swingsAs_B22 b o post σ) ∧ ((σ b 1) = (σ o 1) → (((σ b 2) = (σ o 2) → ∃ n9, it1 (qX0_swingsAs_L26 b o post) n9 (0 : Int32) σ) ∧ (¬ (σ b 2) = (σ o 2) → qX0_swingsAs_B22 b o post σ))))
set_option maxRecDepth 20000 in
theorem kX0_swingsAs {X : Cx} {G : Gw} (hG : fw_IsC G) (O : fw_Ok X G cX0_swingsAs 3 RX0 0 0 (some .boolean)) {b : Nat} {o : Nat} (hb : fw_rig b) (ho : fw_rig o) {σ : Mem} {post : Int32 → Mem → Prop} (h : qX0_swingsAs b o σ post) : fw_At X G 3 (fw_QI X G post) 0 [(0, .ref (gad G b)), (1, .ref (gad G o))] [] σ := by
  unfold qX0_swingsAs at h
  refine fr_aload_n (pc := 0) O 0 dX0_swingsAs_0 rfl rfl ?_
  refine fr_get (pc := 1) (k := 1) (v := .int (σ b 1)) O cl_X0 m_77 (sC_rig hG hb) (by decide) rfl rfl dX0_swingsAs_1 ?_
  refine fr_aload_n (pc := 4) O 1 dX0_swingsAs_4 rfl rfl ?_
  refine fr_get (pc := 5) (k := 1) (v := .int (σ o 1)) O cl_X0 m_77 (sC_rig hG ho) (by decide) rfl rfl dX0_swingsAs_5 ?_
  refine fr_icmp_ne (pc := 8) (tgt := 22) O dX0_swingsAs_8 (by decide) (fun c_8 => ?_) (fun c_8 => ?_)
  · have h := h.1 c_8
    exact kX0_swingsAs_B22 hG O hb ho h
  · have h := h.2 c_8
    refine fr_aload_n (pc := 11) O 0 dX0_swingsAs_11 rfl rfl ?_
    refine fr_get (pc := 12) (k := 2) (v := .int (σ b 2)) O cl_X0 m_79 (sC_rig hG hb) (by decide) rfl rfl dX0_swingsAs_12 ?_
    refine fr_aload_n (pc := 15) O 1 dX0_swingsAs_15 rfl rfl ?_
    refine fr_get (pc := 16) (k := 2) (v := .int (σ o 2)) O cl_X0 m_79 (sC_rig hG ho) (by decide) rfl rfl dX0_swingsAs_16 ?_
    refine fr_icmp_eq (pc := 19) (tgt := 24) O dX0_swingsAs_19 (by decide) (fun c_19 => ?_) (fun c_19 => ?_)
    · have h := h.1 c_19
      refine fr_iconst (pc := 24) O (v := (0 : Int32)) dX0_swingsAs_24 (by decide) ?_
      refine fr_istore_n (pc := 25) O [1, 2, 0] (lv' := [(0, .ref (gad G b)), (1, .ref (gad G o)), (2, .int (0 : Int32))]) dX0_swingsAs_25 rfl (by decide) rfl ?_
      obtain ⟨n9, h⟩ := h
      exact kX0_swingsAs_L26w hG O hb ho h
    · have h := h.2 c_19
      exact kX0_swingsAs_B22 hG O hb ho h
theorem tX0_swingsAs (l : Launch) {G : Gw} (hG : fw_IsC G) {b : Nat} {o : Nat} (hb : fw_rig b) (ho : fw_rig o) {σ : Mem} {post : Int32 → Mem → Prop} (h : qX0_swingsAs b o σ post) : fw_CI l G yX0_swingsAs cX0_swingsAs 3 .boolean 0 0 [.ref (gad G b), .ref (gad G o)] σ post := fw_ofI (sok_C hG) (by decide) (Nat.le_of_ble_eq_true rfl) (fun X O => kX0_swingsAs hG O hb ho h)
def qX0_dueNumber_B20 (b : Nat) (post : Int32 → Mem → Prop) (s0 : Int32) (σ : Mem) : Prop := post s0 σ
set_option maxRecDepth 20000 in
theorem kX0_dueNumber_B20 {X : Cx} {G : Gw} (hG : fw_IsC G) (O : fw_Ok X G cX0_dueNumber 1 RX0 0 0 (some .int)) {b : Nat} {post : Int32 → Mem → Prop} (hb : fw_rig b)  {s0 : Int32} {σ : Mem} (h : qX0_dueNumber_B20 b post s0 σ) : fw_At X G 1 (fw_QI X G post) 20 [(0, .ref (gad G b))] [.int s0] σ := by
  unfold qX0_dueNumber_B20 at h
  exact fr_iret (pc := 20) O dX0_dueNumber_20 h
def qX0_dueNumber (b : Nat) (σ : Mem) (post : Int32 → Mem → Prop) : Prop := (((σ b 7) ≤ 0 → qX0_dueNumber_B20 b post (0 : Int32) σ) ∧ (¬ (σ b 7) ≤ 0 → (¬ (σ b 7) = 0 ∧ qX0_dueNumber_B20 b post ((σ b 9) - (σ b 9) / (σ b 7) * (σ b 7)) σ)))
set_option maxRecDepth 20000 in
theorem kX0_dueNumber {X : Cx} {G : Gw} (hG : fw_IsC G) (O : fw_Ok X G cX0_dueNumber 1 RX0 0 0 (some .int)) {b : Nat} (hb : fw_rig b) {σ : Mem} {post : Int32 → Mem → Prop} (h : qX0_dueNumber b σ post) : fw_At X G 1 (fw_QI X G post) 0 [(0, .ref (gad G b))] [] σ := by
  unfold qX0_dueNumber at h
  refine fr_aload_n (pc := 0) O 0 dX0_dueNumber_0 rfl rfl ?_
  refine fr_get (pc := 1) (k := 7) (v := .int (σ b 7)) O cl_X0 m_90 (sC_rig hG hb) (by decide) rfl rfl dX0_dueNumber_1 ?_
  refine fr_if_le (pc := 4) (tgt := 19) O dX0_dueNumber_4 (by decide) (fun c_4 => ?_) (fun c_4 => ?_)
  · have h := h.1 c_4
    refine fr_iconst (pc := 19) O (v := (0 : Int32)) dX0_dueNumber_19 (by decide) ?_
    exact kX0_dueNumber_B20 hG O hb h
  · have h := h.2 c_4
    refine fr_aload_n (pc := 7) O 0 dX0_dueNumber_7 rfl rfl ?_
    refine fr_get (pc := 8) (k := 9) (v := .int (σ b 9)) O cl_X0 m_95 (sC_rig hG hb) (by decide) rfl rfl dX0_dueNumber_8 ?_
    refine fr_aload_n (pc := 11) O 0 dX0_dueNumber_11 rfl rfl ?_
    refine fr_get (pc := 12) (k := 7) (v := .int (σ b 7)) O cl_X0 m_90 (sC_rig hG hb) (by decide) rfl rfl dX0_dueNumber_12 ?_
    refine fr_irem (pc := 15) O h.1 dX0_dueNumber_15 ?_
    have h := h.2
    refine fr_goto (pc := 16) (tgt := 20) O dX0_dueNumber_16 (by decide) ?_
    exact kX0_dueNumber_B20 hG O hb h
theorem tX0_dueNumber (l : Launch) {G : Gw} (hG : fw_IsC G) {b : Nat} (hb : fw_rig b) {σ : Mem} {post : Int32 → Mem → Prop} (h : qX0_dueNumber b σ post) : fw_CI l G yX0_dueNumber cX0_dueNumber 1 .int 0 0 [.ref (gad G b)] σ post := fw_ofI (sok_C hG) (by decide) (Nat.le_of_ble_eq_true rfl) (fun X O => kX0_dueNumber hG O hb h)
def qX0_dueAct_B20 (b : Nat) (post : Int32 → Mem → Prop) (s0 : Int32) (σ : Mem) : Prop := post s0 σ
set_option maxRecDepth 20000 in
theorem kX0_dueAct_B20 {X : Cx} {G : Gw} (hG : fw_IsC G) (O : fw_Ok X G cX0_dueAct 1 RX0 1 20 (some .int)) {b : Nat} {post : Int32 → Mem → Prop} (hb : fw_rig b)  {s0 : Int32} {σ : Mem} (h : qX0_dueAct_B20 b post s0 σ) : fw_At X G 1 (fw_QI X G post) 20 [(0, .ref (gad G b))] [.int s0] σ := by
  unfold qX0_dueAct_B20 at h
  exact fr_iret (pc := 20) O dX0_dueAct_20 h
def qX0_dueAct (b : Nat) (σ : Mem) (post : Int32 → Mem → Prop) : Prop := (((σ b 7) ≤ 0 → qX0_dueAct_B20 b post (0 : Int32) σ) ∧ (¬ (σ b 7) ≤ 0 → (qX0_dueNumber b σ (fun r12 σ12 => (vp_in r12 16 ∧ qX0_dueAct_B20 b post (σ12 (b + 5) r12.toNatClampNeg) σ12)))))
set_option maxRecDepth 20000 in
theorem kX0_dueAct {X : Cx} {G : Gw} (hG : fw_IsC G) (O : fw_Ok X G cX0_dueAct 1 RX0 1 20 (some .int)) {b : Nat} (hb : fw_rig b) {σ : Mem} {post : Int32 → Mem → Prop} (h : qX0_dueAct b σ post) : fw_At X G 1 (fw_QI X G post) 0 [(0, .ref (gad G b))] [] σ := by
  unfold qX0_dueAct at h
  refine fr_aload_n (pc := 0) O 0 dX0_dueAct_0 rfl rfl ?_
  refine fr_get (pc := 1) (k := 7) (v := .int (σ b 7)) O cl_X0 m_90 (sC_rig hG hb) (by decide) rfl rfl dX0_dueAct_1 ?_
  refine fr_if_le (pc := 4) (tgt := 19) O dX0_dueAct_4 (by decide) (fun c_4 => ?_) (fun c_4 => ?_)
  · have h := h.1 c_4
    refine fr_iconst (pc := 19) O (v := (0 : Int32)) dX0_dueAct_19 (by decide) ?_
    exact kX0_dueAct_B20 hG O hb h
  · have h := h.2 c_4
    refine fr_aload_n (pc := 7) O 0 dX0_dueAct_7 rfl rfl ?_
    refine fr_get (pc := 8) (k := 8) (v := .ref (gad G (b + 5))) O cl_X0 m_93 (sC_rig hG hb) (by decide) rfl rfl dX0_dueAct_8 ?_
    refine fr_aload_n (pc := 11) O 0 dX0_dueAct_11 rfl rfl ?_
    refine fr_callVI (pc := 12) (st := [.ref (gad G (b + 5))]) O (tX0_dueNumber X.2.1 hG hb h) mt_X0_dueNumber mv_X0_dueNumber m_409 cl_X0 rfl (sC_rig hG hb) rfl (by decide) rfl (Nat.le_of_ble_eq_true rfl) dX0_dueAct_12 (fun r12 σ12 h => ?_)
    have hi_15 := h.1
    have h := h.2
    refine fr_iald (pc := 15) O (sC_r5 hG hb) hi_15 dX0_dueAct_15 ?_
    refine fr_goto (pc := 16) (tgt := 20) O dX0_dueAct_16 (by decide) ?_
    exact kX0_dueAct_B20 hG O hb h
theorem tX0_dueAct (l : Launch) {G : Gw} (hG : fw_IsC G) {b : Nat} (hb : fw_rig b) {σ : Mem} {post : Int32 → Mem → Prop} (h : qX0_dueAct b σ post) : fw_CI l G yX0_dueAct cX0_dueAct 1 .int 1 20 [.ref (gad G b)] σ post := fw_ofI (sok_C hG) (by decide) (Nat.le_of_ble_eq_true rfl) (fun X O => kX0_dueAct hG O hb h)
def qX0_neverJoin_B31 (b : Nat) (a1 : Int32) (post : Mem → Prop) (k2 : Int32 → Mem → Prop) (x2 : Int32) (σ : Mem) : Prop := (∀ y2_31 : Int32, y2_31 = x2 + (1 : Int32) → k2 y2_31 σ)
set_option maxRecDepth 20000 in
theorem kX0_neverJoin_B31 {X : Cx} {G : Gw} (hG : fw_IsC G) (O : fw_Ok X G cX0_neverJoin 3 RX0 0 0 none) {b : Nat} {a1 : Int32} {post : Mem → Prop} {k2 : Int32 → Mem → Prop} (hb : fw_rig b) (hk2 : ∀ (x2 : Int32) (σ : Mem), k2 x2 σ → fw_At X G 3 (fw_QV X G post) 2 [(0, .ref (gad G b)), (1, .int a1), (2, .int x2)] [] σ) {x2 : Int32} {σ : Mem} (h : qX0_neverJoin_B31 b a1 post k2 x2 σ) : fw_At X G 3 (fw_QV X G post) 31 [(0, .ref (gad G b)), (1, .int a1), (2, .int x2)] [] σ := by
  unfold qX0_neverJoin_B31 at h
  refine fr_iinc (pc := 31) O 2 [1, 2, 0] (w := (1 : Int32)) (lvF := fun y2_31 => [(0, .ref (gad G b)), (1, .int a1), (2, .int y2_31)]) dX0_neverJoin_31 rfl (by decide) (by decide) (fun _ => rfl) (fun y2_31 e_y2_31 => ?_)
  have h := h y2_31 e_y2_31
  refine fr_goto (pc := 34) (tgt := 2) O dX0_neverJoin_34 (by decide) ?_
  exact hk2 _ _ h
def qX0_neverJoin_L2 (b : Nat) (a1 : Int32) (post : Mem → Prop) (k2 : Int32 → Mem → Prop) (x2 : Int32) (σ : Mem) : Prop := (((σ b 7) ≤ x2 → post σ) ∧ (¬ (σ b 7) ≤ x2 → (vp_in x2 16 ∧ ((¬ (σ (b + 5) x2.toNatClampNeg) = ((200 : Int32) + a1) → qX0_neverJoin_B31 b a1 post k2 x2 σ) ∧ ((σ (b + 5) x2.toNatClampNeg) = ((200 : Int32) + a1) → (∀ σ30 : Mem, σ30 = up2 σ (b + 5) x2.toNatClampNeg (0 : Int32) → qX0_neverJoin_B31 b a1 post k2 x2 σ30))))))
set_option maxRecDepth 20000 in
theorem kX0_neverJoin_L2 {X : Cx} {G : Gw} (hG : fw_IsC G) (O : fw_Ok X G cX0_neverJoin 3 RX0 0 0 none) {b : Nat} {a1 : Int32} {post : Mem → Prop} {k2 : Int32 → Mem → Prop} (hb : fw_rig b) (hk2 : ∀ (x2 : Int32) (σ : Mem), k2 x2 σ → fw_At X G 3 (fw_QV X G post) 2 [(0, .ref (gad G b)), (1, .int a1), (2, .int x2)] [] σ) {x2 : Int32} {σ : Mem} (h : qX0_neverJoin_L2 b a1 post k2 x2 σ) : fw_At X G 3 (fw_QV X G post) 2 [(0, .ref (gad G b)), (1, .int a1), (2, .int x2)] [] σ := by
  unfold qX0_neverJoin_L2 at h
  refine fr_iload_n (pc := 2) O 2 dX0_neverJoin_2 rfl rfl ?_
  refine fr_aload_n (pc := 3) O 0 dX0_neverJoin_3 rfl rfl ?_
  refine fr_get (pc := 4) (k := 7) (v := .int (σ b 7)) O cl_X0 m_90 (sC_rig hG hb) (by decide) rfl rfl dX0_neverJoin_4 ?_
  refine fr_icmp_ge (pc := 7) (tgt := 37) O dX0_neverJoin_7 (by decide) (fun c_7 => ?_) (fun c_7 => ?_)
  · have h := h.1 c_7
    exact fr_vret (pc := 37) O dX0_neverJoin_37 h
  · have h := h.2 c_7
    refine fr_aload_n (pc := 10) O 0 dX0_neverJoin_10 rfl rfl ?_
    refine fr_get (pc := 11) (k := 8) (v := .ref (gad G (b + 5))) O cl_X0 m_93 (sC_rig hG hb) (by decide) rfl rfl dX0_neverJoin_11 ?_
    refine fr_iload_n (pc := 14) O 2 dX0_neverJoin_14 rfl rfl ?_
    have hi_15 := h.1
    have h := h.2
    refine fr_iald (pc := 15) O (sC_r5 hG hb) hi_15 dX0_neverJoin_15 ?_
    refine fr_sipush (pc := 16) O (v := (200 : Int32)) dX0_neverJoin_16 (by decide) ?_
    refine fr_iload_n (pc := 19) O 1 dX0_neverJoin_19 rfl rfl ?_
    refine fr_iadd (pc := 20) O dX0_neverJoin_20 ?_
    refine fr_icmp_ne (pc := 21) (tgt := 31) O dX0_neverJoin_21 (by decide) (fun c_21 => ?_) (fun c_21 => ?_)
    · have h := h.1 c_21
      exact kX0_neverJoin_B31 hG O hb hk2 h
    · have h := h.2 c_21
      refine fr_aload_n (pc := 24) O 0 dX0_neverJoin_24 rfl rfl ?_
      refine fr_get (pc := 25) (k := 8) (v := .ref (gad G (b + 5))) O cl_X0 m_93 (sC_rig hG hb) (by decide) rfl rfl dX0_neverJoin_25 ?_
      refine fr_iload_n (pc := 28) O 2 dX0_neverJoin_28 rfl rfl ?_
      refine fr_iconst (pc := 29) O (v := (0 : Int32)) dX0_neverJoin_29 (by decide) ?_
      refine fr_iast (pc := 30) O (sC_r5 hG hb) hi_15 dX0_neverJoin_30 (fun σ30 e_σ30 => ?_)
      have h := h σ30 e_σ30
      exact kX0_neverJoin_B31 hG O hb hk2 h
set_option maxRecDepth 20000 in
theorem kX0_neverJoin_L2w {X : Cx} {G : Gw} (hG : fw_IsC G) (O : fw_Ok X G cX0_neverJoin 3 RX0 0 0 none) {b : Nat} {a1 : Int32} {post : Mem → Prop} (hb : fw_rig b)  {n9 : Nat} {x2 : Int32} {σ : Mem} (h : it1 (qX0_neverJoin_L2 b a1 post) n9 x2 σ) : fw_At X G 3 (fw_QV X G post) 2 [(0, .ref (gad G b)), (1, .int a1), (2, .int x2)] [] σ :=
  it1_walk (T := fun x2 σ => fw_At X G 3 (fw_QV X G post) 2 [(0, .ref (gad G b)), (1, .int a1), (2, .int x2)] [] σ) (fun k2 hk2 x2 σ h => kX0_neverJoin_L2 hG O hb hk2 h) n9 x2 σ h
def qX0_neverJoin (b : Nat) (a1 : Int32) (σ : Mem) (post : Mem → Prop) : Prop := ∃ n9, it1 (qX0_neverJoin_L2 b a1 post) n9 (0 : Int32) σ
set_option maxRecDepth 20000 in
theorem kX0_neverJoin {X : Cx} {G : Gw} (hG : fw_IsC G) (O : fw_Ok X G cX0_neverJoin 3 RX0 0 0 none) {b : Nat} {a1 : Int32} (hb : fw_rig b) {σ : Mem} {post : Mem → Prop} (h : qX0_neverJoin b a1 σ post) : fw_At X G 3 (fw_QV X G post) 0 [(0, .ref (gad G b)), (1, .int a1)] [] σ := by
  unfold qX0_neverJoin at h
  refine fr_iconst (pc := 0) O (v := (0 : Int32)) dX0_neverJoin_0 (by decide) ?_
  refine fr_istore_n (pc := 1) O [1, 2, 0] (lv' := [(0, .ref (gad G b)), (1, .int a1), (2, .int (0 : Int32))]) dX0_neverJoin_1 rfl (by decide) rfl ?_
  obtain ⟨n9, h⟩ := h
  exact kX0_neverJoin_L2w hG O hb h
theorem tX0_neverJoin (l : Launch) {G : Gw} (hG : fw_IsC G) {b : Nat} {a1 : Int32} (hb : fw_rig b) {σ : Mem} {post : Mem → Prop} (h : qX0_neverJoin b a1 σ post) : fw_CV l G yX0_neverJoin cX0_neverJoin 3 0 0 [.ref (gad G b), .int a1] σ post := fw_ofV (sok_C hG) (by decide) (Nat.le_of_ble_eq_true rfl) (fun X O => kX0_neverJoin hG O hb h)
def qX0_takeLoad (b : Nat) (a1 : Int32) (σ : Mem) (post : Mem → Prop) : Prop := (∀ y2_8 : Int32, y2_8 = (if (σ b 1) < a1 then (σ b 1) else a1) → (∀ σ16 : Mem, σ16 = up2 σ b 1 ((σ b 1) - y2_8) → (∀ σ26 : Mem, σ26 = up2 σ16 b 10 ((σ16 b 10) + y2_8) → (∀ σ38 : Mem, σ38 = up2 σ26 b 11 ((σ26 b 11) + (a1 - y2_8)) → post σ38))))
set_option maxRecDepth 20000 in
theorem kX0_takeLoad {X : Cx} {G : Gw} (hG : fw_IsC G) (O : fw_Ok X G cX0_takeLoad 3 RX0 1 13 none) {b : Nat} {a1 : Int32} (hb : fw_rig b) {σ : Mem} {post : Mem → Prop} (h : qX0_takeLoad b a1 σ post) : fw_At X G 3 (fw_QV X G post) 0 [(0, .ref (gad G b)), (1, .int a1)] [] σ := by
  unfold qX0_takeLoad at h
  refine fr_iload_n (pc := 0) O 1 dX0_takeLoad_0 rfl rfl ?_
  refine fr_aload_n (pc := 1) O 0 dX0_takeLoad_1 rfl rfl ?_
  refine fr_get (pc := 2) (k := 1) (v := .int (σ b 1)) O cl_X0 m_77 (sC_rig hG hb) (by decide) rfl rfl dX0_takeLoad_2 ?_
  refine fr_mmin (pc := 5) O ml_429 ml_430 m_58 ml_431 ⟨by decide, Nat.le_of_ble_eq_true rfl⟩ dX0_takeLoad_5 ?_
  refine fr_nm (fun y2_8 e_y2_8 => ?_)
  have h := h y2_8 e_y2_8
  refine fr_istore_n (pc := 8) O [1, 2, 0] (lv' := [(0, .ref (gad G b)), (1, .int a1), (2, .int y2_8)]) dX0_takeLoad_8 rfl (by decide) rfl ?_
  refine fr_aload_n (pc := 9) O 0 dX0_takeLoad_9 rfl rfl ?_
  refine fr_dup (pc := 10) O dX0_takeLoad_10 rfl ?_
  refine fr_get (pc := 11) (k := 1) (v := .int (σ b 1)) O cl_X0 m_77 (sC_rig hG hb) (by decide) rfl rfl dX0_takeLoad_11 ?_
  refine fr_iload_n (pc := 14) O 2 dX0_takeLoad_14 rfl rfl ?_
  refine fr_isub (pc := 15) O dX0_takeLoad_15 ?_
  refine fr_put (pc := 16) (k := 1) O cl_X0 m_77 (sC_rig hG hb) (by decide) rfl rfl rfl rfl (fun _ => Nat.le_of_ble_eq_true rfl) (fun _ => rfl) dX0_takeLoad_16 (fun σ16 e_σ16 => ?_)
  have h := h σ16 e_σ16
  refine fr_aload_n (pc := 19) O 0 dX0_takeLoad_19 rfl rfl ?_
  refine fr_dup (pc := 20) O dX0_takeLoad_20 rfl ?_
  refine fr_get (pc := 21) (k := 10) (v := .int (σ16 b 10)) O cl_X0 m_97 (sC_rig hG hb) (by decide) rfl rfl dX0_takeLoad_21 ?_
  refine fr_iload_n (pc := 24) O 2 dX0_takeLoad_24 rfl rfl ?_
  refine fr_iadd (pc := 25) O dX0_takeLoad_25 ?_
  refine fr_put (pc := 26) (k := 10) O cl_X0 m_97 (sC_rig hG hb) (by decide) rfl rfl rfl rfl (fun _ => Nat.le_of_ble_eq_true rfl) (fun _ => rfl) dX0_takeLoad_26 (fun σ26 e_σ26 => ?_)
  have h := h σ26 e_σ26
  refine fr_aload_n (pc := 29) O 0 dX0_takeLoad_29 rfl rfl ?_
  refine fr_dup (pc := 30) O dX0_takeLoad_30 rfl ?_
  refine fr_get (pc := 31) (k := 11) (v := .int (σ26 b 11)) O cl_X0 m_99 (sC_rig hG hb) (by decide) rfl rfl dX0_takeLoad_31 ?_
  refine fr_iload_n (pc := 34) O 1 dX0_takeLoad_34 rfl rfl ?_
  refine fr_iload_n (pc := 35) O 2 dX0_takeLoad_35 rfl rfl ?_
  refine fr_isub (pc := 36) O dX0_takeLoad_36 ?_
  refine fr_iadd (pc := 37) O dX0_takeLoad_37 ?_
  refine fr_put (pc := 38) (k := 11) O cl_X0 m_99 (sC_rig hG hb) (by decide) rfl rfl rfl rfl (fun _ => Nat.le_of_ble_eq_true rfl) (fun _ => rfl) dX0_takeLoad_38 (fun σ38 e_σ38 => ?_)
  have h := h σ38 e_σ38
  exact fr_vret (pc := 41) O dX0_takeLoad_41 h
theorem tX0_takeLoad (l : Launch) {G : Gw} (hG : fw_IsC G) {b : Nat} {a1 : Int32} (hb : fw_rig b) {σ : Mem} {post : Mem → Prop} (h : qX0_takeLoad b a1 σ post) : fw_CV l G yX0_takeLoad cX0_takeLoad 3 1 13 [.ref (gad G b), .int a1] σ post := fw_ofV (sok_C hG) (by decide) (Nat.le_of_ble_eq_true rfl) (fun X O => kX0_takeLoad hG O hb h)
def qX0_joinedSwing (b : Nat) (a1 : Int32) (σ : Mem) (post : Int32 → Mem → Prop) : Prop := (vp_in a1 4 ∧ (∀ y2_6 : Int32, y2_6 = σ (b + 4) a1.toNatClampNeg → (qX3_quotient ((y2_6 + (σ b 1)) * (σ (b + 2) a1.toNatClampNeg)) ((σ (b + 2) a1.toNatClampNeg) + (σ b 0)) σ (fun r31 σ31 => (∀ z_41 : Int32, z_41 = σ31 (b + 1) a1.toNatClampNeg → ((z_41 = (0 : Int32) → post r31 σ31) ∧ (¬ z_41 = (0 : Int32) → ((z_41 = (1 : Int32) → (¬ (2 : Int32) = 0 ∧ post (y2_6 + ((r31 - y2_6) / (2 : Int32))) σ31)) ∧ (¬ z_41 = (1 : Int32) → ((z_41 = (2 : Int32) → post (if r31 < y2_6 then y2_6 else r31) σ31) ∧ (¬ z_41 = (2 : Int32) → post (if (y2_6 + (20 : Int32)) < (if r31 < y2_6 then y2_6 else r31) then (y2_6 + (20 : Int32)) else (if r31 < y2_6 then y2_6 else r31)) σ31)))))))))))
set_option maxRecDepth 20000 in
theorem kX0_joinedSwing {X : Cx} {G : Gw} (hG : fw_IsC G) (O : fw_Ok X G cX0_joinedSwing 4 RX0 1 21 (some .int)) {b : Nat} {a1 : Int32} (hb : fw_rig b) {σ : Mem} {post : Int32 → Mem → Prop} (h : qX0_joinedSwing b a1 σ post) : fw_At X G 4 (fw_QI X G post) 0 [(0, .ref (gad G b)), (1, .int a1)] [] σ := by
  unfold qX0_joinedSwing at h
  refine fr_aload_n (pc := 0) O 0 dX0_joinedSwing_0 rfl rfl ?_
  refine fr_get (pc := 1) (k := 6) (v := .ref (gad G (b + 4))) O cl_X0 m_88 (sC_rig hG hb) (by decide) rfl rfl dX0_joinedSwing_1 ?_
  refine fr_iload_n (pc := 4) O 1 dX0_joinedSwing_4 rfl rfl ?_
  have hi_5 := h.1
  have h := h.2
  refine fr_iald (pc := 5) O (sC_r4 hG hb) hi_5 dX0_joinedSwing_5 ?_
  refine fr_nm (fun y2_6 e_y2_6 => ?_)
  have h := h y2_6 e_y2_6
  refine fr_istore_n (pc := 6) O [1, 2, 0] (lv' := [(0, .ref (gad G b)), (1, .int a1), (2, .int y2_6)]) dX0_joinedSwing_6 rfl (by decide) rfl ?_
  refine fr_iload_n (pc := 7) O 2 dX0_joinedSwing_7 rfl rfl ?_
  refine fr_aload_n (pc := 8) O 0 dX0_joinedSwing_8 rfl rfl ?_
  refine fr_get (pc := 9) (k := 1) (v := .int (σ b 1)) O cl_X0 m_77 (sC_rig hG hb) (by decide) rfl rfl dX0_joinedSwing_9 ?_
  refine fr_iadd (pc := 12) O dX0_joinedSwing_12 ?_
  refine fr_aload_n (pc := 13) O 0 dX0_joinedSwing_13 rfl rfl ?_
  refine fr_get (pc := 14) (k := 4) (v := .ref (gad G (b + 2))) O cl_X0 m_84 (sC_rig hG hb) (by decide) rfl rfl dX0_joinedSwing_14 ?_
  refine fr_iload_n (pc := 17) O 1 dX0_joinedSwing_17 rfl rfl ?_
  refine fr_iald (pc := 18) O (sC_r2 hG hb) hi_5 dX0_joinedSwing_18 ?_
  refine fr_imul (pc := 19) O dX0_joinedSwing_19 ?_
  refine fr_aload_n (pc := 20) O 0 dX0_joinedSwing_20 rfl rfl ?_
  refine fr_get (pc := 21) (k := 4) (v := .ref (gad G (b + 2))) O cl_X0 m_84 (sC_rig hG hb) (by decide) rfl rfl dX0_joinedSwing_21 ?_
  refine fr_iload_n (pc := 24) O 1 dX0_joinedSwing_24 rfl rfl ?_
  refine fr_iald (pc := 25) O (sC_r2 hG hb) hi_5 dX0_joinedSwing_25 ?_
  refine fr_aload_n (pc := 26) O 0 dX0_joinedSwing_26 rfl rfl ?_
  refine fr_get (pc := 27) (k := 0) (v := .int (σ b 0)) O cl_X0 m_74 (sC_rig hG hb) (by decide) rfl rfl dX0_joinedSwing_27 ?_
  refine fr_iadd (pc := 30) O dX0_joinedSwing_30 ?_
  refine fr_callNI (pc := 31) (st := []) O (tX3_quotient X.2.1 hG  h) mt_X3_quotient m_403 (sC_nest_quotient hG O.2.2.1) rfl (by decide) rfl (Nat.le_of_ble_eq_true rfl) dX0_joinedSwing_31 (fun r31 σ31 h => ?_)
  refine fr_istore_n (pc := 34) O [1, 2, 3, 0] (lv' := [(0, .ref (gad G b)), (1, .int a1), (2, .int y2_6), (3, .int r31)]) dX0_joinedSwing_34 rfl (by decide) rfl ?_
  refine fr_aload_n (pc := 35) O 0 dX0_joinedSwing_35 rfl rfl ?_
  refine fr_get (pc := 36) (k := 3) (v := .ref (gad G (b + 1))) O cl_X0 m_82 (sC_rig hG hb) (by decide) rfl rfl dX0_joinedSwing_36 ?_
  refine fr_iload_n (pc := 39) O 1 dX0_joinedSwing_39 rfl rfl ?_
  refine fr_iald (pc := 40) O (sC_r1 hG hb) hi_5 dX0_joinedSwing_40 ?_
  refine fr_nm (fun z_41 e_z_41 => ?_)
  have h := h z_41 e_z_41
  by_cases e41_0 : z_41 = (0 : Int32)
  · refine fr_tabIn (pc := 41) (tgt := 68) (off := 27) O dX0_joinedSwing_41 (by rw [e41_0]; decide) ?_
    have h := h.1 e41_0
    refine fr_iload_n (pc := 68) O 3 dX0_joinedSwing_68 rfl rfl ?_
    exact fr_iret (pc := 69) O dX0_joinedSwing_69 h
  · have h := h.2 e41_0
    by_cases e41_1 : z_41 = (1 : Int32)
    · refine fr_tabIn (pc := 41) (tgt := 70) (off := 29) O dX0_joinedSwing_41 (by rw [e41_1]; decide) ?_
      have h := h.1 e41_1
      refine fr_iload_n (pc := 70) O 2 dX0_joinedSwing_70 rfl rfl ?_
      refine fr_iload_n (pc := 71) O 3 dX0_joinedSwing_71 rfl rfl ?_
      refine fr_iload_n (pc := 72) O 2 dX0_joinedSwing_72 rfl rfl ?_
      refine fr_isub (pc := 73) O dX0_joinedSwing_73 ?_
      refine fr_iconst (pc := 74) O (v := (2 : Int32)) dX0_joinedSwing_74 (by decide) ?_
      refine fr_idiv (pc := 75) O h.1 dX0_joinedSwing_75 ?_
      have h := h.2
      refine fr_iadd (pc := 76) O dX0_joinedSwing_76 ?_
      exact fr_iret (pc := 77) O dX0_joinedSwing_77 h
    · have h := h.2 e41_1
      by_cases e41_2 : z_41 = (2 : Int32)
      · refine fr_tabIn (pc := 41) (tgt := 78) (off := 37) O dX0_joinedSwing_41 (by rw [e41_2]; decide) ?_
        have h := h.1 e41_2
        refine fr_iload_n (pc := 78) O 3 dX0_joinedSwing_78 rfl rfl ?_
        refine fr_iload_n (pc := 79) O 2 dX0_joinedSwing_79 rfl rfl ?_
        refine fr_mmax (pc := 80) O ml_426 ml_427 m_58 ml_428 ⟨by decide, Nat.le_of_ble_eq_true rfl⟩ dX0_joinedSwing_80 ?_
        exact fr_iret (pc := 83) O dX0_joinedSwing_83 h
      · have h := h.2 e41_2
        have n0 := lv_neT e41_0 (show ((0 : Int32)).toInt = 0 by decide)
        have n1 := lv_neT e41_1 (show ((1 : Int32)).toInt = 1 by decide)
        have n2 := lv_neT e41_2 (show ((2 : Int32)).toInt = 2 by decide)
        refine fr_tabOut (pc := 41) (tgt := 84) O dX0_joinedSwing_41 (by omega) (by decide) ?_
        refine fr_iload_n (pc := 84) O 3 dX0_joinedSwing_84 rfl rfl ?_
        refine fr_iload_n (pc := 85) O 2 dX0_joinedSwing_85 rfl rfl ?_
        refine fr_mmax (pc := 86) O ml_426 ml_427 m_58 ml_428 ⟨by decide, Nat.le_of_ble_eq_true rfl⟩ dX0_joinedSwing_86 ?_
        refine fr_iload_n (pc := 89) O 2 dX0_joinedSwing_89 rfl rfl ?_
        refine fr_bipush (pc := 90) O (v := (20 : Int32)) dX0_joinedSwing_90 (by decide) ?_
        refine fr_iadd (pc := 92) O dX0_joinedSwing_92 ?_
        refine fr_mmin (pc := 93) O ml_429 ml_430 m_58 ml_431 ⟨by decide, Nat.le_of_ble_eq_true rfl⟩ dX0_joinedSwing_93 ?_
        exact fr_iret (pc := 96) O dX0_joinedSwing_96 h
theorem tX0_joinedSwing (l : Launch) {G : Gw} (hG : fw_IsC G) {b : Nat} {a1 : Int32} (hb : fw_rig b) {σ : Mem} {post : Int32 → Mem → Prop} (h : qX0_joinedSwing b a1 σ post) : fw_CI l G yX0_joinedSwing cX0_joinedSwing 4 .int 1 21 [.ref (gad G b), .int a1] σ post := fw_ofI (sok_C hG) (by decide) (Nat.le_of_ble_eq_true rfl) (fun X O => kX0_joinedSwing hG O hb h)
def qX0_joinWheel (b : Nat) (a1 : Int32) (σ : Mem) (post : Mem → Prop) : Prop := (vp_in a1 4 ∧ (∀ y2_11 : Int32, y2_11 = (σ b 1) + (σ (b + 4) a1.toNatClampNeg) → (qX0_joinedSwing b a1 σ (fun r19 σ19 => (∀ σ22 : Mem, σ22 = up2 σ19 (b + 4) a1.toNatClampNeg r19 → (∀ σ32 : Mem, σ32 = up2 σ22 b 1 (y2_11 - (σ22 (b + 4) a1.toNatClampNeg)) → post σ32))))))
set_option maxRecDepth 20000 in
theorem kX0_joinWheel {X : Cx} {G : Gw} (hG : fw_IsC G) (O : fw_Ok X G cX0_joinWheel 3 RX0 2 44 none) {b : Nat} {a1 : Int32} (hb : fw_rig b) {σ : Mem} {post : Mem → Prop} (h : qX0_joinWheel b a1 σ post) : fw_At X G 3 (fw_QV X G post) 0 [(0, .ref (gad G b)), (1, .int a1)] [] σ := by
  unfold qX0_joinWheel at h
  refine fr_aload_n (pc := 0) O 0 dX0_joinWheel_0 rfl rfl ?_
  refine fr_get (pc := 1) (k := 1) (v := .int (σ b 1)) O cl_X0 m_77 (sC_rig hG hb) (by decide) rfl rfl dX0_joinWheel_1 ?_
  refine fr_aload_n (pc := 4) O 0 dX0_joinWheel_4 rfl rfl ?_
  refine fr_get (pc := 5) (k := 6) (v := .ref (gad G (b + 4))) O cl_X0 m_88 (sC_rig hG hb) (by decide) rfl rfl dX0_joinWheel_5 ?_
  refine fr_iload_n (pc := 8) O 1 dX0_joinWheel_8 rfl rfl ?_
  have hi_9 := h.1
  have h := h.2
  refine fr_iald (pc := 9) O (sC_r4 hG hb) hi_9 dX0_joinWheel_9 ?_
  refine fr_iadd (pc := 10) O dX0_joinWheel_10 ?_
  refine fr_nm (fun y2_11 e_y2_11 => ?_)
  have h := h y2_11 e_y2_11
  refine fr_istore_n (pc := 11) O [1, 2, 0] (lv' := [(0, .ref (gad G b)), (1, .int a1), (2, .int y2_11)]) dX0_joinWheel_11 rfl (by decide) rfl ?_
  refine fr_aload_n (pc := 12) O 0 dX0_joinWheel_12 rfl rfl ?_
  refine fr_get (pc := 13) (k := 6) (v := .ref (gad G (b + 4))) O cl_X0 m_88 (sC_rig hG hb) (by decide) rfl rfl dX0_joinWheel_13 ?_
  refine fr_iload_n (pc := 16) O 1 dX0_joinWheel_16 rfl rfl ?_
  refine fr_aload_n (pc := 17) O 0 dX0_joinWheel_17 rfl rfl ?_
  refine fr_iload_n (pc := 18) O 1 dX0_joinWheel_18 rfl rfl ?_
  refine fr_callVI (pc := 19) (st := [.int a1, .ref (gad G (b + 4))]) O (tX0_joinedSwing X.2.1 hG hb h) mt_X0_joinedSwing mv_X0_joinedSwing m_494 cl_X0 rfl (sC_rig hG hb) rfl (by decide) rfl (Nat.le_of_ble_eq_true rfl) dX0_joinWheel_19 (fun r19 σ19 h => ?_)
  refine fr_iast (pc := 22) O (sC_r4 hG hb) hi_9 dX0_joinWheel_22 (fun σ22 e_σ22 => ?_)
  have h := h σ22 e_σ22
  refine fr_aload_n (pc := 23) O 0 dX0_joinWheel_23 rfl rfl ?_
  refine fr_iload_n (pc := 24) O 2 dX0_joinWheel_24 rfl rfl ?_
  refine fr_aload_n (pc := 25) O 0 dX0_joinWheel_25 rfl rfl ?_
  refine fr_get (pc := 26) (k := 6) (v := .ref (gad G (b + 4))) O cl_X0 m_88 (sC_rig hG hb) (by decide) rfl rfl dX0_joinWheel_26 ?_
  refine fr_iload_n (pc := 29) O 1 dX0_joinWheel_29 rfl rfl ?_
  refine fr_iald (pc := 30) O (sC_r4 hG hb) hi_9 dX0_joinWheel_30 ?_
  refine fr_isub (pc := 31) O dX0_joinWheel_31 ?_
  refine fr_put (pc := 32) (k := 1) O cl_X0 m_77 (sC_rig hG hb) (by decide) rfl rfl rfl rfl (fun _ => Nat.le_of_ble_eq_true rfl) (fun _ => rfl) dX0_joinWheel_32 (fun σ32 e_σ32 => ?_)
  have h := h σ32 e_σ32
  exact fr_vret (pc := 35) O dX0_joinWheel_35 h
theorem tX0_joinWheel (l : Launch) {G : Gw} (hG : fw_IsC G) {b : Nat} {a1 : Int32} (hb : fw_rig b) {σ : Mem} {post : Mem → Prop} (h : qX0_joinWheel b a1 σ post) : fw_CV l G yX0_joinWheel cX0_joinWheel 3 2 44 [.ref (gad G b), .int a1] σ post := fw_ofV (sok_C hG) (by decide) (Nat.le_of_ble_eq_true rfl) (fun X O => kX0_joinWheel hG O hb h)
def qX0_perform_B58 (b : Nat) (a1 : Int32) (post : Mem → Prop) (σ : Mem) : Prop := post σ
set_option maxRecDepth 20000 in
theorem kX0_perform_B58 {X : Cx} {G : Gw} (hG : fw_IsC G) (O : fw_Ok X G cX0_perform 2 RX0 3 66 none) {b : Nat} {a1 : Int32} {post : Mem → Prop} (hb : fw_rig b)   {σ : Mem} (h : qX0_perform_B58 b a1 post σ) : fw_At X G 2 (fw_QV X G post) 58 [(0, .ref (gad G b)), (1, .int a1)] [] σ := by
  unfold qX0_perform_B58 at h
  exact fr_vret (pc := 58) O dX0_perform_58 h
def qX0_perform (b : Nat) (a1 : Int32) (σ : Mem) (post : Mem → Prop) : Prop := (((100 : Int32) ≤ a1 → (((200 : Int32) ≤ a1 → (qX0_hasWheel b (a1 - (200 : Int32)) σ (fun r43 σ43 => ((r43 = 0 → qX0_perform_B58 b a1 post σ43) ∧ (¬ r43 = 0 → (qX0_joinWheel b (a1 - (200 : Int32)) σ43 (fun σ55 => qX0_perform_B58 b a1 post σ55))))))) ∧ (¬ (200 : Int32) ≤ a1 → (qX0_takeLoad b (a1 - (100 : Int32)) σ (fun σ31 => qX0_perform_B58 b a1 post σ31))))) ∧ (¬ (100 : Int32) ≤ a1 → (∀ σ13 : Mem, σ13 = up2 σ b 1 ((σ b 1) + a1) → qX0_perform_B58 b a1 post σ13)))
set_option maxRecDepth 20000 in
theorem kX0_perform {X : Cx} {G : Gw} (hG : fw_IsC G) (O : fw_Ok X G cX0_perform 2 RX0 3 66 none) {b : Nat} {a1 : Int32} (hb : fw_rig b) {σ : Mem} {post : Mem → Prop} (h : qX0_perform b a1 σ post) : fw_At X G 2 (fw_QV X G post) 0 [(0, .ref (gad G b)), (1, .int a1)] [] σ := by
  unfold qX0_perform at h
  refine fr_iload_n (pc := 0) O 1 dX0_perform_0 rfl rfl ?_
  refine fr_bipush (pc := 1) O (v := (100 : Int32)) dX0_perform_1 (by decide) ?_
  refine fr_icmp_ge (pc := 3) (tgt := 19) O dX0_perform_3 (by decide) (fun c_3 => ?_) (fun c_3 => ?_)
  · have h := h.1 c_3
    refine fr_iload_n (pc := 19) O 1 dX0_perform_19 rfl rfl ?_
    refine fr_sipush (pc := 20) O (v := (200 : Int32)) dX0_perform_20 (by decide) ?_
    refine fr_icmp_ge (pc := 23) (tgt := 37) O dX0_perform_23 (by decide) (fun c_23 => ?_) (fun c_23 => ?_)
    · have h := h.1 c_23
      refine fr_aload_n (pc := 37) O 0 dX0_perform_37 rfl rfl ?_
      refine fr_iload_n (pc := 38) O 1 dX0_perform_38 rfl rfl ?_
      refine fr_sipush (pc := 39) O (v := (200 : Int32)) dX0_perform_39 (by decide) ?_
      refine fr_isub (pc := 42) O dX0_perform_42 ?_
      refine fr_callVI (pc := 43) (st := []) O (tX0_hasWheel X.2.1 hG hb h) mt_X0_hasWheel mv_X0_hasWheel m_489 cl_X0 rfl (sC_rig hG hb) rfl (by decide) rfl (Nat.le_of_ble_eq_true rfl) dX0_perform_43 (fun r43 σ43 h => ?_)
      refine fr_if_eq (pc := 46) (tgt := 58) O dX0_perform_46 (by decide) (fun c_46 => ?_) (fun c_46 => ?_)
      · have h := h.1 c_46
        exact kX0_perform_B58 hG O hb h
      · have h := h.2 c_46
        refine fr_aload_n (pc := 49) O 0 dX0_perform_49 rfl rfl ?_
        refine fr_iload_n (pc := 50) O 1 dX0_perform_50 rfl rfl ?_
        refine fr_sipush (pc := 51) O (v := (200 : Int32)) dX0_perform_51 (by decide) ?_
        refine fr_isub (pc := 54) O dX0_perform_54 ?_
        refine fr_callVV (pc := 55) (st := []) O (tX0_joinWheel X.2.1 hG hb h) mt_X0_joinWheel mv_X0_joinWheel m_490 cl_X0 rfl (sC_rig hG hb) rfl (by decide) rfl (Nat.le_of_ble_eq_true rfl) dX0_perform_55 (fun σ55 h => ?_)
        exact kX0_perform_B58 hG O hb h
    · have h := h.2 c_23
      refine fr_aload_n (pc := 26) O 0 dX0_perform_26 rfl rfl ?_
      refine fr_iload_n (pc := 27) O 1 dX0_perform_27 rfl rfl ?_
      refine fr_bipush (pc := 28) O (v := (100 : Int32)) dX0_perform_28 (by decide) ?_
      refine fr_isub (pc := 30) O dX0_perform_30 ?_
      refine fr_callVV (pc := 31) (st := []) O (tX0_takeLoad X.2.1 hG hb h) mt_X0_takeLoad mv_X0_takeLoad m_485 cl_X0 rfl (sC_rig hG hb) rfl (by decide) rfl (Nat.le_of_ble_eq_true rfl) dX0_perform_31 (fun σ31 h => ?_)
      refine fr_goto (pc := 34) (tgt := 58) O dX0_perform_34 (by decide) ?_
      exact kX0_perform_B58 hG O hb h
  · have h := h.2 c_3
    refine fr_aload_n (pc := 6) O 0 dX0_perform_6 rfl rfl ?_
    refine fr_dup (pc := 7) O dX0_perform_7 rfl ?_
    refine fr_get (pc := 8) (k := 1) (v := .int (σ b 1)) O cl_X0 m_77 (sC_rig hG hb) (by decide) rfl rfl dX0_perform_8 ?_
    refine fr_iload_n (pc := 11) O 1 dX0_perform_11 rfl rfl ?_
    refine fr_iadd (pc := 12) O dX0_perform_12 ?_
    refine fr_put (pc := 13) (k := 1) O cl_X0 m_77 (sC_rig hG hb) (by decide) rfl rfl rfl rfl (fun _ => Nat.le_of_ble_eq_true rfl) (fun _ => rfl) dX0_perform_13 (fun σ13 e_σ13 => ?_)
    have h := h σ13 e_σ13
    refine fr_goto (pc := 16) (tgt := 58) O dX0_perform_16 (by decide) ?_
    exact kX0_perform_B58 hG O hb h
theorem tX0_perform (l : Launch) {G : Gw} (hG : fw_IsC G) {b : Nat} {a1 : Int32} (hb : fw_rig b) {σ : Mem} {post : Mem → Prop} (h : qX0_perform b a1 σ post) : fw_CV l G yX0_perform cX0_perform 2 3 66 [.ref (gad G b), .int a1] σ post := fw_ofV (sok_C hG) (by decide) (Nat.le_of_ble_eq_true rfl) (fun X O => kX0_perform hG O hb h)
def qX0_passTick_L7 (b : Nat) (a1 : Int32) (post : Mem → Prop) (k7 : Int32 → Mem → Prop) (x2 : Int32) (σ : Mem) : Prop := (((σ b 2) ≤ x2 → (∀ σ64 : Mem, σ64 = up2 σ b 9 ((σ b 9) + (1 : Int32)) → post σ64)) ∧ (¬ (σ b 2) ≤ x2 → (vp_in x2 4 ∧ (∀ y3_30 : Int32, y3_30 = (if (σ (b + 4) x2.toNatClampNeg) < (σ (b + 3) x2.toNatClampNeg) then (σ (b + 4) x2.toNatClampNeg) else (σ (b + 3) x2.toNatClampNeg)) → (∀ σ40 : Mem, σ40 = up2 σ (b + 4) x2.toNatClampNeg ((σ (b + 4) x2.toNatClampNeg) - y3_30) → (∀ σ48 : Mem, σ48 = up2 σ40 b 12 ((σ40 b 12) + y3_30) → (∀ y2_51 : Int32, y2_51 = x2 + (1 : Int32) → k7 y2_51 σ48)))))))
set_option maxRecDepth 20000 in
theorem kX0_passTick_L7 {X : Cx} {G : Gw} (hG : fw_IsC G) (O : fw_Ok X G cX0_passTick 4 RX0 4 87 none) {b : Nat} {a1 : Int32} {post : Mem → Prop} {k7 : Int32 → Mem → Prop} (hb : fw_rig b) (hk7 : ∀ (x2 : Int32) (σ : Mem), k7 x2 σ → fw_At X G 4 (fw_QV X G post) 7 [(0, .ref (gad G b)), (1, .int a1), (2, .int x2)] [] σ) {x2 : Int32} {σ : Mem} (h : qX0_passTick_L7 b a1 post k7 x2 σ) : fw_At X G 4 (fw_QV X G post) 7 [(0, .ref (gad G b)), (1, .int a1), (2, .int x2)] [] σ := by
  unfold qX0_passTick_L7 at h
  refine fr_iload_n (pc := 7) O 2 dX0_passTick_7 rfl rfl ?_
  refine fr_aload_n (pc := 8) O 0 dX0_passTick_8 rfl rfl ?_
  refine fr_get (pc := 9) (k := 2) (v := .int (σ b 2)) O cl_X0 m_79 (sC_rig hG hb) (by decide) rfl rfl dX0_passTick_9 ?_
  refine fr_icmp_ge (pc := 12) (tgt := 57) O dX0_passTick_12 (by decide) (fun c_12 => ?_) (fun c_12 => ?_)
  · have h := h.1 c_12
    refine fr_aload_n (pc := 57) O 0 dX0_passTick_57 rfl rfl ?_
    refine fr_dup (pc := 58) O dX0_passTick_58 rfl ?_
    refine fr_get (pc := 59) (k := 9) (v := .int (σ b 9)) O cl_X0 m_95 (sC_rig hG hb) (by decide) rfl rfl dX0_passTick_59 ?_
    refine fr_iconst (pc := 62) O (v := (1 : Int32)) dX0_passTick_62 (by decide) ?_
    refine fr_iadd (pc := 63) O dX0_passTick_63 ?_
    refine fr_put (pc := 64) (k := 9) O cl_X0 m_95 (sC_rig hG hb) (by decide) rfl rfl rfl rfl (fun _ => Nat.le_of_ble_eq_true rfl) (fun _ => rfl) dX0_passTick_64 (fun σ64 e_σ64 => ?_)
    have h := h σ64 e_σ64
    exact fr_vret (pc := 67) O dX0_passTick_67 h
  · have h := h.2 c_12
    refine fr_aload_n (pc := 15) O 0 dX0_passTick_15 rfl rfl ?_
    refine fr_get (pc := 16) (k := 5) (v := .ref (gad G (b + 3))) O cl_X0 m_86 (sC_rig hG hb) (by decide) rfl rfl dX0_passTick_16 ?_
    refine fr_iload_n (pc := 19) O 2 dX0_passTick_19 rfl rfl ?_
    have hi_20 := h.1
    have h := h.2
    refine fr_iald (pc := 20) O (sC_r3 hG hb) hi_20 dX0_passTick_20 ?_
    refine fr_aload_n (pc := 21) O 0 dX0_passTick_21 rfl rfl ?_
    refine fr_get (pc := 22) (k := 6) (v := .ref (gad G (b + 4))) O cl_X0 m_88 (sC_rig hG hb) (by decide) rfl rfl dX0_passTick_22 ?_
    refine fr_iload_n (pc := 25) O 2 dX0_passTick_25 rfl rfl ?_
    refine fr_iald (pc := 26) O (sC_r4 hG hb) hi_20 dX0_passTick_26 ?_
    refine fr_mmin (pc := 27) O ml_429 ml_430 m_58 ml_431 ⟨by decide, Nat.le_of_ble_eq_true rfl⟩ dX0_passTick_27 ?_
    refine fr_nm (fun y3_30 e_y3_30 => ?_)
    have h := h y3_30 e_y3_30
    refine fr_istore_n (pc := 30) O [1, 2, 3, 0] (lv' := [(0, .ref (gad G b)), (1, .int a1), (2, .int x2), (3, .int y3_30)]) dX0_passTick_30 rfl (by decide) rfl ?_
    refine fr_aload_n (pc := 31) O 0 dX0_passTick_31 rfl rfl ?_
    refine fr_get (pc := 32) (k := 6) (v := .ref (gad G (b + 4))) O cl_X0 m_88 (sC_rig hG hb) (by decide) rfl rfl dX0_passTick_32 ?_
    refine fr_iload_n (pc := 35) O 2 dX0_passTick_35 rfl rfl ?_
    refine fr_dup2 (pc := 36) O dX0_passTick_36 rfl rfl ?_
    refine fr_iald (pc := 37) O (sC_r4 hG hb) hi_20 dX0_passTick_37 ?_
    refine fr_iload_n (pc := 38) O 3 dX0_passTick_38 rfl rfl ?_
    refine fr_isub (pc := 39) O dX0_passTick_39 ?_
    refine fr_iast (pc := 40) O (sC_r4 hG hb) hi_20 dX0_passTick_40 (fun σ40 e_σ40 => ?_)
    have h := h σ40 e_σ40
    refine fr_aload_n (pc := 41) O 0 dX0_passTick_41 rfl rfl ?_
    refine fr_dup (pc := 42) O dX0_passTick_42 rfl ?_
    refine fr_get (pc := 43) (k := 12) (v := .int (σ40 b 12)) O cl_X0 m_101 (sC_rig hG hb) (by decide) rfl rfl dX0_passTick_43 ?_
    refine fr_iload_n (pc := 46) O 3 dX0_passTick_46 rfl rfl ?_
    refine fr_iadd (pc := 47) O dX0_passTick_47 ?_
    refine fr_put (pc := 48) (k := 12) O cl_X0 m_101 (sC_rig hG hb) (by decide) rfl rfl rfl rfl (fun _ => Nat.le_of_ble_eq_true rfl) (fun _ => rfl) dX0_passTick_48 (fun σ48 e_σ48 => ?_)
    have h := h σ48 e_σ48
    refine fr_iinc (pc := 51) O 2 [1, 2, 0, 3] (w := (1 : Int32)) (lvF := fun y2_51 => [(0, .ref (gad G b)), (1, .int a1), (2, .int y2_51), (3, .int y3_30)]) dX0_passTick_51 rfl (by decide) (by decide) (fun _ => rfl) (fun y2_51 e_y2_51 => ?_)
    have h := h y2_51 e_y2_51
    refine fr_goto (pc := 54) (tgt := 7) O dX0_passTick_54 (by decide) ?_
    refine fw_sub (lv' := [(0, .ref (gad G b)), (1, .int a1), (2, .int y2_51)]) [0, 1, 2] rfl ?_
    exact hk7 _ _ h
set_option maxRecDepth 20000 in
theorem kX0_passTick_L7w {X : Cx} {G : Gw} (hG : fw_IsC G) (O : fw_Ok X G cX0_passTick 4 RX0 4 87 none) {b : Nat} {a1 : Int32} {post : Mem → Prop} (hb : fw_rig b)  {n9 : Nat} {x2 : Int32} {σ : Mem} (h : it1 (qX0_passTick_L7 b a1 post) n9 x2 σ) : fw_At X G 4 (fw_QV X G post) 7 [(0, .ref (gad G b)), (1, .int a1), (2, .int x2)] [] σ :=
  it1_walk (T := fun x2 σ => fw_At X G 4 (fw_QV X G post) 7 [(0, .ref (gad G b)), (1, .int a1), (2, .int x2)] [] σ) (fun k7 hk7 x2 σ h => kX0_passTick_L7 hG O hb hk7 h) n9 x2 σ h
def qX0_passTick (b : Nat) (a1 : Int32) (σ : Mem) (post : Mem → Prop) : Prop := (qX0_perform b a1 σ (fun σ2 => ∃ n9, it1 (qX0_passTick_L7 b a1 post) n9 (0 : Int32) σ2))
set_option maxRecDepth 20000 in
theorem kX0_passTick {X : Cx} {G : Gw} (hG : fw_IsC G) (O : fw_Ok X G cX0_passTick 4 RX0 4 87 none) {b : Nat} {a1 : Int32} (hb : fw_rig b) {σ : Mem} {post : Mem → Prop} (h : qX0_passTick b a1 σ post) : fw_At X G 4 (fw_QV X G post) 0 [(0, .ref (gad G b)), (1, .int a1)] [] σ := by
  unfold qX0_passTick at h
  refine fr_aload_n (pc := 0) O 0 dX0_passTick_0 rfl rfl ?_
  refine fr_iload_n (pc := 1) O 1 dX0_passTick_1 rfl rfl ?_
  refine fr_callVV (pc := 2) (st := []) O (tX0_perform X.2.1 hG hb h) mt_X0_perform mv_X0_perform m_508 cl_X0 rfl (sC_rig hG hb) rfl (by decide) rfl (Nat.le_of_ble_eq_true rfl) dX0_passTick_2 (fun σ2 h => ?_)
  refine fr_iconst (pc := 5) O (v := (0 : Int32)) dX0_passTick_5 (by decide) ?_
  refine fr_istore_n (pc := 6) O [1, 2, 0] (lv' := [(0, .ref (gad G b)), (1, .int a1), (2, .int (0 : Int32))]) dX0_passTick_6 rfl (by decide) rfl ?_
  obtain ⟨n9, h⟩ := h
  exact kX0_passTick_L7w hG O hb h
theorem tX0_passTick (l : Launch) {G : Gw} (hG : fw_IsC G) {b : Nat} {a1 : Int32} (hb : fw_rig b) {σ : Mem} {post : Mem → Prop} (h : qX0_passTick b a1 σ post) : fw_CV l G yX0_passTick cX0_passTick 4 4 87 [.ref (gad G b), .int a1] σ post := fw_ofV (sok_C hG) (by decide) (Nat.le_of_ble_eq_true rfl) (fun X O => kX0_passTick hG O hb h)
def qX0_runTicks_L2 (b : Nat) (a1 : Int32) (post : Mem → Prop) (k2 : Int32 → Mem → Prop) (x2 : Int32) (σ : Mem) : Prop := ((a1 ≤ x2 → post σ) ∧ (¬ a1 ≤ x2 → (qX0_dueAct b σ (fun r9 σ9 => (qX0_passTick b r9 σ9 (fun σ12 => (∀ y2_15 : Int32, y2_15 = x2 + (1 : Int32) → k2 y2_15 σ12)))))))
set_option maxRecDepth 20000 in
theorem kX0_runTicks_L2 {X : Cx} {G : Gw} (hG : fw_IsC G) (O : fw_Ok X G cX0_runTicks 3 RX0 5 110 none) {b : Nat} {a1 : Int32} {post : Mem → Prop} {k2 : Int32 → Mem → Prop} (hb : fw_rig b) (hk2 : ∀ (x2 : Int32) (σ : Mem), k2 x2 σ → fw_At X G 3 (fw_QV X G post) 2 [(0, .ref (gad G b)), (1, .int a1), (2, .int x2)] [] σ) {x2 : Int32} {σ : Mem} (h : qX0_runTicks_L2 b a1 post k2 x2 σ) : fw_At X G 3 (fw_QV X G post) 2 [(0, .ref (gad G b)), (1, .int a1), (2, .int x2)] [] σ := by
  unfold qX0_runTicks_L2 at h
  refine fr_iload_n (pc := 2) O 2 dX0_runTicks_2 rfl rfl ?_
  refine fr_iload_n (pc := 3) O 1 dX0_runTicks_3 rfl rfl ?_
  refine fr_icmp_ge (pc := 4) (tgt := 21) O dX0_runTicks_4 (by decide) (fun c_4 => ?_) (fun c_4 => ?_)
  · have h := h.1 c_4
    exact fr_vret (pc := 21) O dX0_runTicks_21 h
  · have h := h.2 c_4
    refine fr_aload_n (pc := 7) O 0 dX0_runTicks_7 rfl rfl ?_
    refine fr_aload_n (pc := 8) O 0 dX0_runTicks_8 rfl rfl ?_
    refine fr_callVI (pc := 9) (st := [.ref (gad G b)]) O (tX0_dueAct X.2.1 hG hb h) mt_X0_dueAct mv_X0_dueAct m_503 cl_X0 rfl (sC_rig hG hb) rfl (by decide) rfl (Nat.le_of_ble_eq_true rfl) dX0_runTicks_9 (fun r9 σ9 h => ?_)
    refine fr_callVV (pc := 12) (st := []) O (tX0_passTick X.2.1 hG hb h) mt_X0_passTick mv_X0_passTick m_504 cl_X0 rfl (sC_rig hG hb) rfl (by decide) rfl (Nat.le_of_ble_eq_true rfl) dX0_runTicks_12 (fun σ12 h => ?_)
    refine fr_iinc (pc := 15) O 2 [1, 2, 0] (w := (1 : Int32)) (lvF := fun y2_15 => [(0, .ref (gad G b)), (1, .int a1), (2, .int y2_15)]) dX0_runTicks_15 rfl (by decide) (by decide) (fun _ => rfl) (fun y2_15 e_y2_15 => ?_)
    have h := h y2_15 e_y2_15
    refine fr_goto (pc := 18) (tgt := 2) O dX0_runTicks_18 (by decide) ?_
    exact hk2 _ _ h
set_option maxRecDepth 20000 in
theorem kX0_runTicks_L2w {X : Cx} {G : Gw} (hG : fw_IsC G) (O : fw_Ok X G cX0_runTicks 3 RX0 5 110 none) {b : Nat} {a1 : Int32} {post : Mem → Prop} (hb : fw_rig b)  {n9 : Nat} {x2 : Int32} {σ : Mem} (h : it1 (qX0_runTicks_L2 b a1 post) n9 x2 σ) : fw_At X G 3 (fw_QV X G post) 2 [(0, .ref (gad G b)), (1, .int a1), (2, .int x2)] [] σ :=
  it1_walk (T := fun x2 σ => fw_At X G 3 (fw_QV X G post) 2 [(0, .ref (gad G b)), (1, .int a1), (2, .int x2)] [] σ) (fun k2 hk2 x2 σ h => kX0_runTicks_L2 hG O hb hk2 h) n9 x2 σ h
def qX0_runTicks (b : Nat) (a1 : Int32) (σ : Mem) (post : Mem → Prop) : Prop := ∃ n9, it1 (qX0_runTicks_L2 b a1 post) n9 (0 : Int32) σ
set_option maxRecDepth 20000 in
theorem kX0_runTicks {X : Cx} {G : Gw} (hG : fw_IsC G) (O : fw_Ok X G cX0_runTicks 3 RX0 5 110 none) {b : Nat} {a1 : Int32} (hb : fw_rig b) {σ : Mem} {post : Mem → Prop} (h : qX0_runTicks b a1 σ post) : fw_At X G 3 (fw_QV X G post) 0 [(0, .ref (gad G b)), (1, .int a1)] [] σ := by
  unfold qX0_runTicks at h
  refine fr_iconst (pc := 0) O (v := (0 : Int32)) dX0_runTicks_0 (by decide) ?_
  refine fr_istore_n (pc := 1) O [1, 2, 0] (lv' := [(0, .ref (gad G b)), (1, .int a1), (2, .int (0 : Int32))]) dX0_runTicks_1 rfl (by decide) rfl ?_
  obtain ⟨n9, h⟩ := h
  exact kX0_runTicks_L2w hG O hb h
theorem tX0_runTicks (l : Launch) {G : Gw} (hG : fw_IsC G) {b : Nat} {a1 : Int32} (hb : fw_rig b) {σ : Mem} {post : Mem → Prop} (h : qX0_runTicks b a1 σ post) : fw_CV l G yX0_runTicks cX0_runTicks 3 5 110 [.ref (gad G b), .int a1] σ post := fw_ofV (sok_C hG) (by decide) (Nat.le_of_ble_eq_true rfl) (fun X O => kX0_runTicks hG O hb h)
