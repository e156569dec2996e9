/-! PURE, 25: the text -/
def MR (τ0 τ : Mem) (y : LnS) : Prop := MS τ y.1 ∧ (y.1.1 = 0 → (τ 0 2 = if y.2.1 = true then 1 else 0) ∧ ∃ W A, PgR W A y.2.2 τ ∧ Bd W 0 y.2.2) ∧ Fx τ0 τ
theorem s4_readLine {b : Nat → Int32} {T : Nat} {τ0 τ : Mem} {y : LnS} {post : Mem → Prop} (hT : T ≤ 160) (ht0 : tapeM b T τ0) (e4 : τ0 4 = s0M 4) (e5 : τ0 5 = s0M 5) (hM : MR τ0 τ y) (ok : okx T y.1) (h0 : y.1.1 = 0) (h : ∀ τ', MR τ0 τ' (lnN b T y) → post τ') : qX4_readLine τ post := by
  obtain ⟨ms, c2, fx⟩ := hM
  obtain ⟨e02, W, A, pg, bd⟩ := c2 h0
  have ht := ht0.fx fx
  have okp := ok.2.2 h0
  have hN := nmk_le b y.1
  have v := pg.1
  have hW := v.2.1
  have hA := v.2.2.2.1
  have hsB : isB (if y.2.1 = true then (1 : Int32) else 0) := by
    split
    · exact isB_1
    · exact isB_0
  unfold qX4_readLine
  refine s4_nameHere ht ms h0 okp.1 okp.2.1 okp.2.2.1 (by rw [fx.1 4 (by decide) (by decide)]; exact e4) (by rw [fx.1 5 (by decide) (by decide)]; exact e5) ?_
  unfold lnN lnF at h
  generalize hNN : nmk b y.1 = N at *
  have dead : ∀ (c : Nat), 1 ≤ c → c ≤ 5 → (∀ τ', MR τ0 τ' (nx b T (wr c y.1), y.2) → post τ') → qX4_fails (nI c) τ (fun σ58 => qX4_readLine_B61 post (nI N) σ58) := by
    intro c hc1 hc5 hp
    have o2 := wr_ok ok hc1 hc5
    have ne : ¬ (wr c y.1).1 = 0 := by show ¬ c = 0; omega
    refine s4_fails ms ok h0 hc1 (fun τ1 f1 m1 => m_dead (ht.ft f1) m1 o2 ne (fun τ2 f2 m2 => hp τ2 ⟨?_, fun z => ?_, (fx.tr f1.x).tr f2⟩))
    · show MS τ2 (nx b T (wr c y.1))
      rw [nx_dead ne]; exact m2
    · have z2 : (nx b T (wr c y.1)).1 = 0 := z
      rw [nx_dead ne] at z2
      exact absurd z2 ne
  by_cases c8 : N = 8
  · rw [if_neg (by omega)]
    rw [if_pos c8] at h
    refine in_f (lo := 0) (hi := 7) rfl rfl (Or.inl (by decide)) (y0 ?_)
    have ne : ¬ (wr 2 y.1).1 = 0 := by show ¬ (2 : Nat) = 0; decide
    refine s4_fails (c := 2) ms ok h0 (by decide) (fun τ1 f1 m1 => h τ1 ⟨?_, fun z => ?_, fx.tr f1.x⟩)
    · show MS τ1 (nx b T (wr 2 y.1))
      rw [nx_dead ne]; exact m1
    · have z2 : (nx b T (wr 2 y.1)).1 = 0 := z
      rw [nx_dead ne] at z2
      exact absurd z2 ne
  · rw [if_pos (by omega)]
    rw [if_neg c8] at h
    have l3 : (3 : Int32) < nI N ↔ 3 < N := nI_lt_iff (a := 3) (by decide) (by omega)
    have l5 : nI N < (5 : Int32) ↔ N < 5 := nI_lt_iff (b := 5) (by omega) (by decide)
    have i4 : nI N = 4 ↔ N = 4 := nI_eq_iff (b := 4) (by omega) (by decide)
    have iW : nI W = 4 ↔ W = 4 := nI_eq_iff (b := 4) (by omega) (by decide)
    have iA : nI A = 16 ↔ A = 16 := nI_eq_iff (b := 16) (by omega) (by decide)
    refine in_t (lo := 0) (hi := 7) rfl rfl (nI_pos (by omega)) (fun z => absurd ((nI_lt_iff (a := 7) (by decide) (by omega)).mp z) (by omega)) (y1 ?_)
    rw [tl16, pg.w]
    have b78 : ¬ N = 4 → (∀ s1 : Int32, (s1 = if y.2.1 = true then 1 else 0) → qX4_readLine_B96 post (nI N) s1 τ) → qX4_readLine_B61 post (nI N) τ := by
      intro n4 g
      unfold qX4_readLine_B61 qX4_readLine_B78 qX4_readLine_B91
      rw [e02]
      refine ⟨fun _ => ?_, fun z => absurd (i4.mp z) n4⟩
      by_cases hs : y.2.1 = true
      · rw [if_pos hs]
        exact y1 (g 1 (by rw [if_pos hs]))
      · rw [if_neg hs]
        exact y0 ⟨fun _ => g 0 (by rw [if_neg hs]), fun z => absurd (i4.mp z) n4⟩
    refine ⟨fun c3 => ?_, fun c3 => ⟨vl16_39, fun cw => ?_, fun cw => ?_⟩⟩
    · rw [l3] at c3
      rw [if_neg (by omega)] at h
      unfold qX4_readLine_B39
      rw [tl33, pg.a]
      refine ⟨fun c5 => ?_, fun c5 => ⟨vl33_39, fun ca => ?_, fun ca => ?_⟩⟩
      · rw [l5] at c5
        have n4 : N = 4 := by omega
        rw [if_pos n4] at h
        unfold qX4_readLine_B61
        refine ⟨fun z => absurd (i4.mpr n4) z, fun _ => ?_⟩
        rw [e02]
        by_cases hs : y.2.1 = true
        · rw [if_pos hs]
          rw [if_pos hs] at h
          refine z1 ?_
          have D := dead 4 (by decide) (by decide) h
          unfold qX4_readLine_B61 at D
          have o2 := wr_ok ok (c := 4) (by decide) (by decide)
          have ne : ¬ (wr 4 y.1).1 = 0 := by show ¬ (4 : Nat) = 0; decide
          refine s4_fails (c := 4) ms ok h0 (by decide) (fun τ1 f1 m1 => ?_)
          have MD := m_dead (N := N) (post := post) (ht.ft f1) m1 o2 ne (fun τ2 f2 m2 => h τ2 ⟨?_, fun z => ?_, (fx.tr f1.x).tr f2⟩)
          · unfold qX4_readLine_B61 at MD
            have hw1 := m1.w0 o2
            have k2 := MD.2 (i4.mpr n4)
            by_cases q : τ1 0 2 = 0
            · exact k2.1 q
            · have k3 := k2.2 q
              unfold qX4_fails qX4_fails_B20 at k3
              exact k3.1 (fun z => ne (hw1.mp z))
          · show MS τ2 (nx b T (wr 4 y.1))
            rw [nx_dead ne]; exact m2
          · have z2 : (nx b T (wr 4 y.1)).1 = 0 := z
            rw [nx_dead ne] at z2
            exact absurd z2 ne
        · rw [if_neg hs]
          rw [if_neg hs] at h
          refine z0 ?_
          unfold qX4_readLine_B78 qX4_readLine_B91
          rw [e02, if_neg hs]
          refine y0 ⟨fun z => absurd (i4.mpr n4) z, fun _ => ?_⟩
          rw [n4]
          refine m_shaft hT ht ms ok isB_1 pg (fun τ' f m k => h τ' ⟨?_, fun z => ?_, fx.tr f⟩)
          · by_cases q : (lS2 b T y.1).1 = 0
            · rw [if_pos q]; exact m
            · rw [if_neg q]; exact m
          · by_cases q : (lS2 b T y.1).1 = 0
            · rw [if_pos q] at z ⊢
              obtain ⟨k1, k2⟩ := k q
              exact ⟨k1, W, A, k2, bd.fr rfl rfl⟩
            · rw [if_neg q] at z
              have z2 : (nx b T (lS2 b T y.1)).1 = 0 := z
              rw [nx_dead q] at z2
              exact absurd z2 q
      · rw [l5] at c5
        have n4 : ¬ N = 4 := by omega
        rw [if_neg n4] at h
        rw [if_neg (fun z => ca (by have := (a16_iff v).mp z; rw [this]; rfl))] at h
        have hA16 : A < 16 := by
          have : ¬ A = 16 := fun z => ca (iA.mpr z)
          omega
        refine b78 n4 (fun s1 es1 => ?_)
        refine m_act hT ht ms ok (by rw [es1]; exact hsB) pg bd hA16 (by omega) (by omega) (fun τ' f m k => h τ' ⟨?_, fun z => ?_, fx.tr f⟩)
        · by_cases q : (lA2 b T N y.1).1 = 0
          · rw [if_pos q]; exact m
          · rw [if_neg q]; exact m
        · by_cases q : (lA2 b T N y.1).1 = 0
          · rw [if_pos q] at z ⊢
            obtain ⟨k1, k2⟩ := k q
            obtain ⟨⟨m', hm', em'⟩, -⟩ := lA_0 (by omega) q
            refine ⟨by rw [k1, es1], W, A + 1, k2, ?_⟩
            show Bd W 0 (addA (fA N + (lA1 b T N y.1).2.2.2.2) y.2.2)
            rw [em']
            exact (addA_ok v bd hA16 hm').2
          · rw [if_neg q] at z
            have z2 : (nx b T (lA2 b T N y.1)).1 = 0 := z
            rw [nx_dead q] at z2
            exact absurd z2 q
      · rw [l5] at c5
        rw [if_neg (by omega)] at h
        rw [if_pos ((a16_iff v).mpr (iA.mp ca))] at h
        unfold qX4_readLine_B56
        exact dead 5 (by decide) (by decide) h
    · rw [l3] at c3
      rw [if_pos (by omega), if_pos ((w4_iff v).mpr (iW.mp cw))] at h
      unfold qX4_readLine_B56
      exact dead 5 (by decide) (by decide) h
    · rw [l3] at c3
      have hW4 : W < 4 := by
        have : ¬ W = 4 := fun z => cw (iW.mpr z)
        omega
      rw [if_pos (by omega), if_neg (fun z => by have := (w4_iff v).mp z; omega)] at h
      unfold qX4_readLine_B39
      refine ⟨fun _ => ?_, fun z => absurd (l5.mpr (by omega)) z⟩
      refine b78 (by omega) (fun s1 es1 => ?_)
      refine m_wheel hT ht ms ok (by rw [es1]; exact hsB) pg bd hW4 (by omega) (fun τ' f m k => h τ' ⟨?_, fun z => ?_, fx.tr f⟩)
      · by_cases q : (lW3 b T y.1).1 = 0
        · rw [if_pos q]; exact m
        · rw [if_neg q]; exact m
      · by_cases q : (lW3 b T y.1).1 = 0
        · rw [if_pos q] at z ⊢
          obtain ⟨k1, k2⟩ := k q
          obtain ⟨⟨m', hm1, hm2, em'⟩, ⟨l', hl', el'⟩, -⟩ := lW_0 q
          refine ⟨by rw [k1, es1], W + 1, A, k2, ?_⟩
          show Bd (W + 1) 0 (addW (nI N) (lW1 b T y.1).2.2.2.2 (lW2 b T y.1).2.2.2.2 y.2.2)
          rw [em', el']
          exact (addW_ok v bd hW4 (by omega) hm1 hm2 hl').2
        · rw [if_neg q] at z
          have z2 : (nx b T (lW3 b T y.1)).1 = 0 := z
          rw [nx_dead q] at z2
          exact absurd z2 q
def itl (b : Nat → Int32) (T : Nat) : Nat → LnS → LnS
  | 0, y => y
  | L + 1, y => lnN b T (itl b T L y)
theorem itl_ok {b : Nat → Int32} {T : Nat} {y : LnS} (hT : T ≤ 160) (h : VR T y) : ∀ L, VR T (itl b T L y)
  | 0 => h
  | L + 1 => lnN_ok hT (itl_ok hT h L)
def stopL (y : LnS) : Prop := ¬ y.1.1 = 0 ∨ y.1.2.2.2.1 = 0
theorem itl_a {b : Nat → Int32} {T : Nat} {y : LnS} (hT : T ≤ 160) (h : VR T y) : ∀ L, (∀ j, j ≤ L → ¬ stopL (itl b T j y)) → L + 1 ≤ (itl b T L y).1.2.2.1 ∧ (itl b T L y).1.2.2.1 ≤ T
  | 0 => fun hs => by
    have q := hs 0 (Nat.le_refl _)
    have q1 : y.1.1 = 0 := Classical.byContradiction fun z => q (Or.inl z)
    have q2 : ¬ y.1.2.2.2.1 = 0 := fun z => q (Or.inr z)
    have k := h.1.2.2 q1
    have k4 := k.2.2.2 q2
    show 0 + 1 ≤ y.1.2.2.1 ∧ y.1.2.2.1 ≤ T
    omega
  | L + 1 => fun hs => by
    have ih := itl_a hT h L (fun j hj => hs j (by omega))
    have q := hs (L + 1) (Nat.le_refl _)
    have q1 : (itl b T (L + 1) y).1.1 = 0 := Classical.byContradiction fun z => q (Or.inl z)
    have lt := lnN_lt hT (itl_ok (b := b) hT h L) q1
    have k := (itl_ok (b := b) hT h (L + 1)).1.2.2 q1
    have e : itl b T (L + 1) y = lnN b T (itl b T L y) := rfl
    rw [e] at k ⊢
    omega
theorem itl_end {b : Nat → Int32} {T : Nat} {y : LnS} (hT : T ≤ 160) (h : VR T y) : ∃ e, stopL (itl b T e y) ∧ ∀ j, j < e → ¬ stopL (itl b T j y) ∧ j < 160 := by
  have ex : ∃ L, stopL (itl b T L y) := by
    apply Classical.byContradiction
    intro z
    have := itl_a (b := b) hT h 160 (fun j _ q => z ⟨j, q⟩)
    omega
  obtain ⟨e, he, hj⟩ := pk_least _ ex
  refine ⟨e, he, fun j hjj => ⟨hj j hjj, ?_⟩⟩
  have := itl_a (b := b) hT h j (fun i hi => hj i (by omega))
  omega
