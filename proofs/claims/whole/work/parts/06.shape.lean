/-! THE TWO WORLDS: the class's 48 cells, the reference's 12 -/
def fw_rig (b : Nat) : Prop := b = 1 ∨ b = 7 ∨ b = 13 ∨ b = 19 ∨ b = 25
theorem rg_1 : fw_rig 1 := Or.inl rfl
theorem rg_7 : fw_rig 7 := Or.inr (Or.inl rfl)
theorem rg_13 : fw_rig 13 := Or.inr (Or.inr (Or.inl rfl))
theorem rg_19 : fw_rig 19 := Or.inr (Or.inr (Or.inr (Or.inl rfl)))
theorem rg_25 : fw_rig 25 := Or.inr (Or.inr (Or.inr (Or.inr rfl)))
def fw_sheet (c : Nat) : Prop := c = 36 ∨ c = 38 ∨ c = 40 ∨ c = 42
theorem rig_of {k : Int32} (h : vp_in k 2) : fw_rig (19 + 6 * k.toNatClampNeg) := by
  have h2 : k.toNatClampNeg < 2 := Nat.not_le.mp fun q => h (Or.inr q)
  rcases (show k.toNatClampNeg = 0 ∨ k.toNatClampNeg = 1 by omega) with e | e <;> rw [e]
  · exact rg_19
  · exact rg_25
theorem sheet_of {k : Int32} (h : vp_in k 4) : fw_sheet (36 + 2 * k.toNatClampNeg) := by
  have h2 : k.toNatClampNeg < 4 := Nat.not_le.mp fun q => h (Or.inr q)
  unfold fw_sheet
  omega
def sh_Rig (G : Gw) (b : Nat) (f : Nat → Int32) : List Value := [.int (f 0), .int (f 1), .int (f 2), .ref (gad G (b + 1)), .ref (gad G (b + 2)), .ref (gad G (b + 3)), .ref (gad G (b + 4)), .int (f 7), .ref (gad G (b + 5)), .int (f 9), .int (f 10), .int (f 11), .int (f 12)]
def sh_Sheet (G : Gw) (b : Nat) (f : Nat → Int32) : List Value := [.int (f 0), .int (f 1), .int (f 2), .ref (gad G (b + 1))]
def sh_Tape (G : Gw) (f : Nat → Int32) : List Value := [.ref (gad G 34), .int (f 1), .int (f 2), .int (f 3), .int (f 4), .int (f 5), .int (f 6), .int (f 7)]
def sh_FW (G : Gw) (f : Nat → Int32) : List Value := [.ref (gad G 1), .ref (gad G 7), .ref (gad G 13), .ref (gad G 31), .ref (gad G 32), .ref (gad G 33), .ref (gad G 35), .ref (gad G 44), .ref (gad G 45), .ref (gad G 46), .int (f 10), .int (f 11), .int (f 12), .ref (gad G 47)]
def sh_Mod (G : Gw) (f : Nat → Int32) : List Value := [.ref (gad G 1), .ref (gad G 2), .int (f 2), .ref (gad G 3), .int (f 4), .int (f 5), .int (f 6), .int (f 7), .int (f 8), .int (f 9), .int (f 10), .int (f 11), .ref (gad G 4), .ref (gad G 5), .int (f 14), .int (f 15), .int (f 16), .int (f 17), .ref (gad G 6), .int (f 19), .ref (gad G 7), .ref (gad G 8), .ref (gad G 9), .ref (gad G 10), .ref (gad G 11), .int (f 25)]
/-- the String constants: plain slip take soft shaft drive load join -/
def sb_len : List Nat := [5, 4, 4, 4, 5, 5, 4, 4]
def sb_byt : List (List Int32) := [[112, 108, 97, 105, 110], [115, 108, 105, 112], [116, 97, 107, 101], [115, 111, 102, 116], [115, 104, 97, 102, 116], [100, 114, 105, 118, 101], [108, 111, 97, 100], [106, 111, 105, 110]]
def sb_txt : List (Nat × String) := [(116, "plain"), (118, "slip"), (120, "take"), (122, "soft"), (124, "shaft"), (126, "drive"), (128, "load"), (130, "join")]
/-- what holds beside the cells in the class's world -/
def kb_C (G : Gw) (U : State) : Prop := va_Nw (.methodLinkNest RX0 59 yX3_quotient RX3) U ∧ va_Nw (.methodLinkNest RX2 104 yX3_within RX3) U ∧ vk_S 8 sb_len sb_byt (gK G) (gV G) (gA G) U U.heap ∧ va_Z RJ0 "COMPACT_STRINGS" "Z" (.int 1) (gA G) U U.heap ∧ va_Zq RJ3 "SIOOBE_FORMATTER" "Ljava/util/function/BiFunction;" (gA G) U U.heap ∧ ∀ i, i < 8 → vk_R RX2 (sb_txt.getD i (0, "")).1 (sb_txt.getD i (0, "")).2 (gK G i) U
def fw_IsC (G : Gw) : Prop := fw_Gok G ∧ (∀ U, gkb G U → kb_C G U) ∧ fw_Ob G 0 3 (sh_FW G) ∧
  (∀ b, fw_rig b → fw_Ob G b 0 (sh_Rig G b) ∧ fw_Ar G .int (b + 1) 4 ∧ fw_Ar G .int (b + 2) 4 ∧ fw_Ar G .int (b + 3) 4 ∧ fw_Ar G .int (b + 4) 4 ∧ fw_Ar G .int (b + 5) 16) ∧
  fw_Rf G RX0 31 2 (fun i => 19 + 6 * i) ∧ fw_Ar G .boolean 32 2 ∧ fw_Ob G 33 2 (sh_Tape G) ∧ fw_Ar G .int 34 160 ∧ fw_Rf G RX1 35 4 (fun i => 36 + 2 * i) ∧
  (∀ b, fw_sheet b → fw_Ob G b 1 (sh_Sheet G b) ∧ fw_Ar G .int (b + 1) 40) ∧ fw_Ar G .int 44 6 ∧ fw_Ar G .int 45 6 ∧ fw_Ar G .int 46 6 ∧ fw_Ar G .int 47 410
section SC
variable {G : Gw} (hG : fw_IsC G)
theorem sok_C (hG : fw_IsC G) : fw_Gok G := hG.1
theorem sC_0 (hG : fw_IsC G) : fw_Ob G 0 3 (sh_FW G) := hG.2.2.1
theorem sC_rig (hG : fw_IsC G) {b : Nat} (hb : fw_rig b) : fw_Ob G b 0 (sh_Rig G b) := (hG.2.2.2.1 b hb).1
theorem sC_r1 (hG : fw_IsC G) {b : Nat} (hb : fw_rig b) : fw_Ar G .int (b + 1) 4 := (hG.2.2.2.1 b hb).2.1
theorem sC_r2 (hG : fw_IsC G) {b : Nat} (hb : fw_rig b) : fw_Ar G .int (b + 2) 4 := (hG.2.2.2.1 b hb).2.2.1
theorem sC_r3 (hG : fw_IsC G) {b : Nat} (hb : fw_rig b) : fw_Ar G .int (b + 3) 4 := (hG.2.2.2.1 b hb).2.2.2.1
theorem sC_r4 (hG : fw_IsC G) {b : Nat} (hb : fw_rig b) : fw_Ar G .int (b + 4) 4 := (hG.2.2.2.1 b hb).2.2.2.2.1
theorem sC_r5 (hG : fw_IsC G) {b : Nat} (hb : fw_rig b) : fw_Ar G .int (b + 5) 16 := (hG.2.2.2.1 b hb).2.2.2.2.2
theorem sC_31 (hG : fw_IsC G) : fw_Rf G RX0 31 2 (fun i => 19 + 6 * i) := hG.2.2.2.2.1
theorem sC_32 (hG : fw_IsC G) : fw_Ar G .boolean 32 2 := hG.2.2.2.2.2.1
theorem sC_33 (hG : fw_IsC G) : fw_Ob G 33 2 (sh_Tape G) := hG.2.2.2.2.2.2.1
theorem sC_34 (hG : fw_IsC G) : fw_Ar G .int 34 160 := hG.2.2.2.2.2.2.2.1
theorem sC_35 (hG : fw_IsC G) : fw_Rf G RX1 35 4 (fun i => 36 + 2 * i) := hG.2.2.2.2.2.2.2.2.1
theorem sC_sheet (hG : fw_IsC G) {b : Nat} (hb : fw_sheet b) : fw_Ob G b 1 (sh_Sheet G b) := (hG.2.2.2.2.2.2.2.2.2.1 b hb).1
theorem sC_s1 (hG : fw_IsC G) {b : Nat} (hb : fw_sheet b) : fw_Ar G .int (b + 1) 40 := (hG.2.2.2.2.2.2.2.2.2.1 b hb).2
theorem sC_44 (hG : fw_IsC G) : fw_Ar G .int 44 6 := hG.2.2.2.2.2.2.2.2.2.2.1
theorem sC_45 (hG : fw_IsC G) : fw_Ar G .int 45 6 := hG.2.2.2.2.2.2.2.2.2.2.2.1
theorem sC_46 (hG : fw_IsC G) : fw_Ar G .int 46 6 := hG.2.2.2.2.2.2.2.2.2.2.2.2.1
theorem sC_47 (hG : fw_IsC G) : fw_Ar G .int 47 410 := hG.2.2.2.2.2.2.2.2.2.2.2.2.2
theorem sC_nest_quotient (hG : fw_IsC G) {U : State} (h : gkb G U) : va_Nw (.methodLinkNest RX0 59 yX3_quotient RX3) U := (hG.2.1 U h).1
theorem sC_nest_within (hG : fw_IsC G) {U : State} (h : gkb G U) : va_Nw (.methodLinkNest RX2 104 yX3_within RX3) U := (hG.2.1 U h).2.1
end SC
def fw_IsM (G : Gw) : Prop := fw_Gok G ∧ fw_Ob G 0 4 (sh_Mod G) ∧ fw_Ar G .int 1 234 ∧ fw_Ar G .int 2 39 ∧ fw_Ar G .int 3 160 ∧ fw_Ar G .int 4 9 ∧ fw_Ar G .int 5 35 ∧ fw_Ar G .int 6 18 ∧ fw_Ar G .int 7 410 ∧ fw_Ar G .boolean 8 2 ∧ fw_Ar G .int 9 4 ∧ fw_Ar G .int 10 4 ∧ fw_Ar G .int 11 160
theorem sok_M {G : Gw} (hG : fw_IsM G) : fw_Gok G := hG.1
theorem sM_0 {G : Gw} (hG : fw_IsM G) : fw_Ob G 0 4 (sh_Mod G) := hG.2.1
theorem sM_1 {G : Gw} (hG : fw_IsM G) : fw_Ar G .int 1 234 := hG.2.2.1
theorem sM_2 {G : Gw} (hG : fw_IsM G) : fw_Ar G .int 2 39 := hG.2.2.2.1
theorem sM_3 {G : Gw} (hG : fw_IsM G) : fw_Ar G .int 3 160 := hG.2.2.2.2.1
theorem sM_4 {G : Gw} (hG : fw_IsM G) : fw_Ar G .int 4 9 := hG.2.2.2.2.2.1
theorem sM_5 {G : Gw} (hG : fw_IsM G) : fw_Ar G .int 5 35 := hG.2.2.2.2.2.2.1
theorem sM_6 {G : Gw} (hG : fw_IsM G) : fw_Ar G .int 6 18 := hG.2.2.2.2.2.2.2.1
theorem sM_7 {G : Gw} (hG : fw_IsM G) : fw_Ar G .int 7 410 := hG.2.2.2.2.2.2.2.2.1
theorem sM_8 {G : Gw} (hG : fw_IsM G) : fw_Ar G .boolean 8 2 := hG.2.2.2.2.2.2.2.2.2.1
theorem sM_9 {G : Gw} (hG : fw_IsM G) : fw_Ar G .int 9 4 := hG.2.2.2.2.2.2.2.2.2.2.1
theorem sM_10 {G : Gw} (hG : fw_IsM G) : fw_Ar G .int 10 4 := hG.2.2.2.2.2.2.2.2.2.2.2.1
theorem sM_11 {G : Gw} (hG : fw_IsM G) : fw_Ar G .int 11 160 := hG.2.2.2.2.2.2.2.2.2.2.2.2
