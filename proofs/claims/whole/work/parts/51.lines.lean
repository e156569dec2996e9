/-! PURE, 22: a line of the text -/
def addW (k m l : Int32) (ρ : Mem) : Mem := up2 (up2 (up2 (up2 (up2 ρ 1 (ρ 0 2).toNatClampNeg k) 2 (ρ 0 2).toNatClampNeg m) 3 (ρ 0 2).toNatClampNeg l) 4 (ρ 0 2).toNatClampNeg 0) 0 2 (nI ((ρ 0 2).toNatClampNeg + 1))
def addA (v : Int32) (ρ : Mem) : Mem := up2 (up2 ρ 5 (ρ 0 7).toNatClampNeg v) 0 7 (nI ((ρ 0 7).toNatClampNeg + 1))
def fA (N : Nat) : Int32 := if N = 6 then 100 else if N = 7 then 200 else 0
def hiA (N : Nat) : Int32 := if N = 7 then 3 else 99
abbrev LnS := PS × Bool × Mem
def lW1 (b : Nat → Int32) (T : Nat) (x : PS) : PS := ck 1 20 (nx b T x)
def lW2 (b : Nat → Int32) (T : Nat) (x : PS) : PS := ck 0 9 (nx b T (lW1 b T x))
def lW3 (b : Nat → Int32) (T : Nat) (x : PS) : PS := cq (nx b T (lW2 b T x))
def lS2 (b : Nat → Int32) (T : Nat) (x : PS) : PS := cq (nx b T (lW1 b T x))
def lA1 (b : Nat → Int32) (T N : Nat) (x : PS) : PS := ck 0 (hiA N) (nx b T x)
def lA2 (b : Nat → Int32) (T N : Nat) (x : PS) : PS := cq (nx b T (lA1 b T N x))
def lnF (b : Nat → Int32) (T : Nat) (y : LnS) : LnS :=
  if nmk b y.1 = 8 then (wr 2 y.1, y.2)
  else if nmk b y.1 < 4 then
    (if y.2.2 0 2 = 4 then (wr 5 y.1, y.2)
     else if (lW3 b T y.1).1 = 0 then (lW3 b T y.1, y.2.1, addW (nI (nmk b y.1)) (lW1 b T y.1).2.2.2.2 (lW2 b T y.1).2.2.2.2 y.2.2)
     else (lW3 b T y.1, y.2))
  else if nmk b y.1 = 4 then
    (if y.2.1 = true then (wr 4 y.1, y.2)
     else if (lS2 b T y.1).1 = 0 then (lS2 b T y.1, true, up2 y.2.2 0 0 (lW1 b T y.1).2.2.2.2)
     else (lS2 b T y.1, y.2))
  else
    (if y.2.2 0 7 = 16 then (wr 5 y.1, y.2)
     else if (lA2 b T (nmk b y.1) y.1).1 = 0 then (lA2 b T (nmk b y.1) y.1, y.2.1, addA (fA (nmk b y.1) + (lA1 b T (nmk b y.1) y.1).2.2.2.2) y.2.2)
     else (lA2 b T (nmk b y.1) y.1, y.2))
def lnN (b : Nat → Int32) (T : Nat) (y : LnS) : LnS := (nx b T (lnF b T y).1, (lnF b T y).2)
/-- what the lines so far tell is a rig at rest -/
def VR (T : Nat) (y : LnS) : Prop := okx T y.1 ∧ ∃ W A, Vd W A 0 y.2.2 ∧ Bd W 0 y.2.2
theorem lW_0 {b : Nat → Int32} {T : Nat} {x : PS} (h : (lW3 b T x).1 = 0) : (∃ m, 1 ≤ m ∧ m ≤ 20 ∧ (lW1 b T x).2.2.2.2 = nI m) ∧ (∃ l, l ≤ 9 ∧ (lW2 b T x).2.2.2.2 = nI l) ∧ (lW1 b T x).1 = 0 ∧ (lW2 b T x).1 = 0 := by
  obtain ⟨c1, -, -⟩ := cq_0 h
  obtain ⟨c2, -⟩ := nx_0 c1
  obtain ⟨d1, d2, d3, d4, d5⟩ := ck_0 c2
  obtain ⟨c3, -⟩ := nx_0 d1
  obtain ⟨g1, g2, g3, g4, g5⟩ := ck_0 c3
  obtain ⟨m, m1, m2, em⟩ := rng_of 1 20 g3 g4 (by decide) (by decide)
  obtain ⟨l, -, l2, el⟩ := rng_of 0 9 d3 d4 (by decide) (by decide)
  refine ⟨⟨m, m1, m2, ?_⟩, ⟨l, l2, ?_⟩, c3, c2⟩
  · rw [lW1, g5]; exact em
  · rw [lW2, d5]; exact el
theorem lS_0 {b : Nat → Int32} {T : Nat} {x : PS} (h : (lS2 b T x).1 = 0) : (∃ m, 1 ≤ m ∧ m ≤ 20 ∧ (lW1 b T x).2.2.2.2 = nI m) ∧ (lW1 b T x).1 = 0 := by
  obtain ⟨c1, -, -⟩ := cq_0 h
  obtain ⟨c3, -⟩ := nx_0 c1
  obtain ⟨g1, g2, g3, g4, g5⟩ := ck_0 c3
  obtain ⟨m, m1, m2, em⟩ := rng_of 1 20 g3 g4 (by decide) (by decide)
  exact ⟨⟨m, m1, m2, by rw [lW1, g5]; exact em⟩, c3⟩
theorem lA_0 {b : Nat → Int32} {T N : Nat} {x : PS} (hN : N ≤ 7) (h : (lA2 b T N x).1 = 0) : (∃ m, m ≤ 203 ∧ fA N + (lA1 b T N x).2.2.2.2 = nI m) ∧ (lA1 b T N x).1 = 0 := by
  obtain ⟨c1, -, -⟩ := cq_0 h
  obtain ⟨c3, -⟩ := nx_0 c1
  obtain ⟨g1, g2, g3, g4, g5⟩ := ck_0 c3
  refine ⟨?_, c3⟩
  rw [lA1, g5]
  unfold hiA at g4
  unfold fA
  by_cases c7 : N = 7
  · rw [if_pos c7] at g4
    rw [if_neg (by omega), if_pos c7]
    obtain ⟨m, -, m2, em⟩ := rng_of 0 3 g3 g4 (by decide) (by decide)
    exact ⟨200 + m, by omega, by rw [em, show (200 : Int32) = nI 200 from rfl, nI_add]⟩
  · rw [if_neg c7] at g4
    obtain ⟨m, -, m2, em⟩ := rng_of 0 99 g3 g4 (by decide) (by decide)
    by_cases c6 : N = 6
    · rw [if_pos c6]
      exact ⟨100 + m, by omega, by rw [em, show (100 : Int32) = nI 100 from rfl, nI_add]⟩
    · rw [if_neg c6, if_neg c7]
      exact ⟨m, by omega, by rw [em, Int32.zero_add]⟩
theorem addW_ok {W A N m l : Nat} {ρ : Mem} (v : Vd W A 0 ρ) (b : Bd W 0 ρ) (hW : W < 4) (hN : N ≤ 3) (m1 : 1 ≤ m) (m2 : m ≤ 20) (hl : l ≤ 9) : Vd (W + 1) A 0 (addW (nI N) (nI m) (nI l) ρ) ∧ Bd (W + 1) 0 (addW (nI N) (nI m) (nI l) ρ) := by
  unfold addW
  rw [v.1, tn_nI (by omega)]
  refine ⟨((((v.k hN).m m1 m2).l hl).st (St.up4 _ W 0)).setW (W + 1) (by omega) (fun i h1 h2 => ?_), ?_⟩
  · have : i = W := by omega
    subst this
    refine ⟨⟨N, ?_, hN⟩, ⟨m, ?_, m1, m2⟩, ⟨l, ?_, hl⟩⟩
    · rw [rd_cj (by decide), rd_cj (by decide), rd_cj (by decide), rd_eq]
    · rw [rd_cj (by decide), rd_cj (by decide), rd_eq]
    · rw [rd_cj (by decide), rd_eq]
  · have b1 : Bd W 0 (up2 (up2 (up2 (up2 (up2 ρ 1 W (nI N)) 2 W (nI m)) 3 W (nI l)) 4 W 0) 0 2 (nI (W + 1))) := by
      have := (b.fr (ρ' := up2 (up2 (up2 ρ 1 W (nI N)) 2 W (nI m)) 3 W (nI l)) rfl rfl).sw (w := W) (x := 0)
      rw [nI_0, Nat.add_zero] at this
      exact this.fr rfl rfl
    exact b1.grow (by rw [rd_cj (by decide), rd_eq])
theorem addA_ok {W A m : Nat} {ρ : Mem} (v : Vd W A 0 ρ) (b : Bd W 0 ρ) (hA : A < 16) (hm : m ≤ 203) : Vd W (A + 1) 0 (addA (nI m) ρ) ∧ Bd W 0 (addA (nI m) ρ) := by
  unfold addA
  rw [v.2.2.1, tn_nI (by omega)]
  refine ⟨(v.p hm).setA (A + 1) (by omega) (fun i h1 h2 => ?_), b.fr rfl rfl⟩
  have : i = A := by omega
  subst this
  exact ⟨m, rd_eq _ _ _ _, hm⟩
theorem w4_iff {W A t : Nat} {ρ : Mem} (v : Vd W A t ρ) : ρ 0 2 = 4 ↔ W = 4 := by
  rw [v.1]
  have := v.2.1
  exact nI_eq_iff (b := 4) (by omega) (by decide)
theorem a16_iff {W A t : Nat} {ρ : Mem} (v : Vd W A t ρ) : ρ 0 7 = 16 ↔ A = 16 := by
  rw [v.2.2.1]
  have := v.2.2.2.1
  exact nI_eq_iff (b := 16) (by omega) (by decide)
theorem lW1_ok {b : Nat → Int32} {T : Nat} {x : PS} (hT : T ≤ 160) (h : okx T x) : okx T (lW1 b T x) := ck_ok (nx_ok hT h)
theorem lW2_ok {b : Nat → Int32} {T : Nat} {x : PS} (hT : T ≤ 160) (h : okx T x) : okx T (lW2 b T x) := ck_ok (nx_ok hT (lW1_ok hT h))
theorem lW3_ok {b : Nat → Int32} {T : Nat} {x : PS} (hT : T ≤ 160) (h : okx T x) : okx T (lW3 b T x) := cq_ok (nx_ok hT (lW2_ok hT h))
theorem lS2_ok {b : Nat → Int32} {T : Nat} {x : PS} (hT : T ≤ 160) (h : okx T x) : okx T (lS2 b T x) := cq_ok (nx_ok hT (lW1_ok hT h))
theorem lA1_ok {b : Nat → Int32} {T N : Nat} {x : PS} (hT : T ≤ 160) (h : okx T x) : okx T (lA1 b T N x) := ck_ok (nx_ok hT h)
theorem lA2_ok {b : Nat → Int32} {T N : Nat} {x : PS} (hT : T ≤ 160) (h : okx T x) : okx T (lA2 b T N x) := cq_ok (nx_ok hT (lA1_ok hT h))
theorem lnF_ok {b : Nat → Int32} {T : Nat} {y : LnS} (hT : T ≤ 160) (h : VR T y) : VR T (lnF b T y) := by
  obtain ⟨ok, W, A, v, bd⟩ := h
  have hN := nmk_le b y.1
  unfold lnF
  by_cases c8 : nmk b y.1 = 8
  · rw [if_pos c8]; exact ⟨wr_ok ok (by decide) (by decide), W, A, v, bd⟩
  · rw [if_neg c8]
    by_cases c4 : nmk b y.1 < 4
    · rw [if_pos c4]
      by_cases cw : y.2.2 0 2 = 4
      · rw [if_pos cw]; exact ⟨wr_ok ok (by decide) (by decide), W, A, v, bd⟩
      · rw [if_neg cw]
        have hW := v.2.1
        have hW4 : W < 4 := by
          have hne : ¬ W = 4 := fun z => cw ((w4_iff v).mpr z)
          omega
        by_cases c0 : (lW3 b T y.1).1 = 0
        · rw [if_pos c0]
          obtain ⟨⟨m, m1, m2, em⟩, ⟨l, hl, el⟩, -⟩ := lW_0 c0
          rw [em, el]
          obtain ⟨g1, g2⟩ := addW_ok v bd hW4 (by omega : nmk b y.1 ≤ 3) m1 m2 hl
          exact ⟨lW3_ok hT ok, W + 1, A, g1, g2⟩
        · rw [if_neg c0]; exact ⟨lW3_ok hT ok, W, A, v, bd⟩
    · rw [if_neg c4]
      by_cases ce : nmk b y.1 = 4
      · rw [if_pos ce]
        by_cases cs : y.2.1 = true
        · rw [if_pos cs]; exact ⟨wr_ok ok (by decide) (by decide), W, A, v, bd⟩
        · rw [if_neg cs]
          by_cases c0 : (lS2 b T y.1).1 = 0
          · rw [if_pos c0]
            obtain ⟨⟨m, m1, m2, em⟩, -⟩ := lS_0 c0
            rw [em]
            exact ⟨lS2_ok hT ok, W, A, v.ms m1 m2, bd.fr rfl rfl⟩
          · rw [if_neg c0]; exact ⟨lS2_ok hT ok, W, A, v, bd⟩
      · rw [if_neg ce]
        by_cases ca : y.2.2 0 7 = 16
        · rw [if_pos ca]; exact ⟨wr_ok ok (by decide) (by decide), W, A, v, bd⟩
        · rw [if_neg ca]
          have hA := v.2.2.2.1
          have hA4 : A < 16 := by
            have hne : ¬ A = 16 := fun z => ca ((a16_iff v).mpr z)
            omega
          by_cases c0 : (lA2 b T (nmk b y.1) y.1).1 = 0
          · rw [if_pos c0]
            obtain ⟨⟨m, hm, em⟩, -⟩ := lA_0 (by omega) c0
            rw [em]
            obtain ⟨g1, g2⟩ := addA_ok v bd hA4 hm
            exact ⟨lA2_ok hT ok, W, A + 1, g1, g2⟩
          · rw [if_neg c0]; exact ⟨lA2_ok hT ok, W, A, v, bd⟩
theorem lnN_ok {b : Nat → Int32} {T : Nat} {y : LnS} (hT : T ≤ 160) (h : VR T y) : VR T (lnN b T y) := by
  obtain ⟨ok, r⟩ := lnF_ok (b := b) hT h
  exact ⟨nx_ok hT ok, r⟩
/-- a good line takes letters -/
theorem cq_lt {b : Nat → Int32} {T : Nat} {x : PS} (hT : T ≤ 160) (h : okx T x) (h0 : (cq (nx b T x)).1 = 0) : x.1 = 0 ∧ x.2.2.1 < (cq (nx b T x)).2.2.1 := by
  obtain ⟨c1, c2, c3⟩ := cq_0 h0
  rw [c3]
  exact ⟨(nx_0 c1).1, (nx_lt hT h c1).2 (by omega)⟩
theorem ck_lt {b : Nat → Int32} {T : Nat} {lo hi : Int32} {x : PS} (hT : T ≤ 160) (h : okx T x) (h0 : (ck lo hi (nx b T x)).1 = 0) : x.1 = 0 ∧ x.2.2.1 < (ck lo hi (nx b T x)).2.2.1 := by
  obtain ⟨c1, c2, -, -, c3⟩ := ck_0 h0
  rw [c3]
  exact ⟨(nx_0 c1).1, (nx_lt hT h c1).2 (by omega)⟩
theorem lnN_lt {b : Nat → Int32} {T : Nat} {y : LnS} (hT : T ≤ 160) (h : VR T y) (h0 : (lnN b T y).1.1 = 0) : y.1.2.2.1 < (lnN b T y).1.2.2.1 := by
  have ok := h.1
  have okF := (lnF_ok (b := b) hT h).1
  have hn : (nx b T (lnF b T y).1).1 = 0 := h0
  have n1 := (nx_lt hT okF hn).1
  have n0 := (nx_0 hn).1
  have key : y.1.2.2.1 < (lnF b T y).1.2.2.1 := by
    clear n1 hn h0 okF
    unfold lnF at n0 ⊢
    by_cases c8 : nmk b y.1 = 8
    · rw [if_pos c8] at n0; exact nomatch n0
    · rw [if_neg c8] at n0 ⊢
      by_cases c4 : nmk b y.1 < 4
      · rw [if_pos c4] at n0 ⊢
        by_cases cw : y.2.2 0 2 = 4
        · rw [if_pos cw] at n0; exact nomatch n0
        · rw [if_neg cw] at n0 ⊢
          by_cases c0 : (lW3 b T y.1).1 = 0
          · rw [if_pos c0]
            show y.1.2.2.1 < (lW3 b T y.1).2.2.1
            obtain ⟨d1, d2⟩ := cq_lt hT (lW2_ok (b := b) hT ok) c0
            obtain ⟨d3, d4⟩ := ck_lt hT (lW1_ok (b := b) hT ok) d1
            obtain ⟨d5, d6⟩ := ck_lt hT ok d3
            unfold lW3 lW2 lW1 at *
            omega
          · rw [if_neg c0] at n0; exact absurd n0 c0
      · rw [if_neg c4] at n0 ⊢
        by_cases ce : nmk b y.1 = 4
        · rw [if_pos ce] at n0 ⊢
          by_cases cs : y.2.1 = true
          · rw [if_pos cs] at n0; exact nomatch n0
          · rw [if_neg cs] at n0 ⊢
            by_cases c0 : (lS2 b T y.1).1 = 0
            · rw [if_pos c0]
              show y.1.2.2.1 < (lS2 b T y.1).2.2.1
              obtain ⟨d1, d2⟩ := cq_lt hT (lW1_ok (b := b) hT ok) c0
              obtain ⟨d3, d4⟩ := ck_lt hT ok d1
              unfold lS2 lW1 at *
              omega
            · rw [if_neg c0] at n0; exact absurd n0 c0
        · rw [if_neg ce] at n0 ⊢
          by_cases ca : y.2.2 0 7 = 16
          · rw [if_pos ca] at n0; exact nomatch n0
          · rw [if_neg ca] at n0 ⊢
            by_cases c0 : (lA2 b T (nmk b y.1) y.1).1 = 0
            · rw [if_pos c0]
              show y.1.2.2.1 < (lA2 b T (nmk b y.1) y.1).2.2.1
              obtain ⟨d1, d2⟩ := cq_lt hT (lA1_ok (b := b) hT ok) c0
              obtain ⟨d3, d4⟩ := ck_lt hT ok d1
              unfold lA2 lA1 at *
              omega
            · rw [if_neg c0] at n0; exact absurd n0 c0
  show y.1.2.2.1 < (nx b T (lnF b T y).1).2.2.1
  omega
