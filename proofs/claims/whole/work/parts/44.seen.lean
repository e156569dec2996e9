/-! PURE, 15: told from how much a wheel swings -/
def sok (W : Nat) (ρ σ : Mem) (i : Nat) : Prop := (σ 45 i).toNatClampNeg < W ∧ ρ 4 (σ 45 i).toNatClampNeg = σ 46 i
def fits (W sn : Nat) (ρ σ : Mem) : Prop := ∀ i, i < sn → sok W (o_run (σ 44 i).toNatClampNeg ρ) σ i
def seenOk (sn : Nat) (σ : Mem) : Prop := sn ≤ 6 ∧ σ 0 10 = nI sn ∧ ∀ i, i < sn → (∃ t, t ≤ 40 ∧ σ 44 i = nI t) ∧ (∃ w, w < 4 ∧ σ 45 i = nI w)
theorem s3_trialIsAsSeen {W sn k : Nat} {σ : Mem} {post : Int32 → Mem → Prop} (h7 : σ 7 2 = nI W) (hW : W ≤ 4) (hs : seenOk sn σ) (h1 : (∀ i, i < sn → σ 44 i = nI k → sok W (rg 7 σ) σ i) → post 1 σ) (h0 : (∃ i, i < sn ∧ σ 44 i = nI k ∧ ¬ sok W (rg 7 σ) σ i) → post 0 σ) : qX3_trialIsAsSeen (nI k) σ post := by
  obtain ⟨hn, e10, hs⟩ := hs
  unfold qX3_trialIsAsSeen
  refine it1_inv sn (fun m y σ' => y = nI m ∧ σ' = σ ∧ ∀ i, i < m → σ 44 i = nI k → sok W (rg 7 σ) σ i) (fun m hm y σ' hI K hK => ?_) (fun y σ' hI K => ?_) 0 σ ⟨nI_0.symm, rfl, fun i hi => absurd hi (Nat.not_lt_zero i)⟩
  · obtain ⟨rfl, rfl, g⟩ := hI
    obtain ⟨-, w, hw, ew⟩ := hs m hm
    unfold qX3_trialIsAsSeen_L2 qX3_trialIsAsSeen_B58 qX3_trialIsAsSeen_B56
    rw [e10, tn_nI (by omega), ew, nI_1]
    refine ⟨fun r => absurd ((nI_le_iff (by omega) (by omega)).mp r) (by omega), fun _ => ⟨in_nI (by omega) (by decide), ?_⟩⟩
    rintro _ rfl
    rw [tn_nI (by omega)]
    refine ⟨fun r => ?_, fun r => ?_⟩
    · rintro _ rfl
      refine hK _ _ ⟨rfl, rfl, fun i hi e => ?_⟩
      by_cases q : i = m
      · subst q; exact absurd e r
      · exact g i (by omega) e
    · refine s0_hasWheel (fun c1 c2 => z1 ?_) (fun c => z0 ?_)
      · rw [h7, nI_le_iff (by omega) (by omega)] at c2
        have e4 : σ' 11 w = rg 7 σ' 4 w := by rw [rg_a 4 (by decide) (by decide) (by omega)]
        rw [e4]
        refine ⟨in_nI (by omega) (by decide), fun d => ?_, fun d => ?_⟩
        · rintro _ rfl
          refine hK _ _ ⟨rfl, rfl, fun i hi e => ?_⟩
          by_cases q : i = m
          · subst q
            unfold sok
            rw [ew, tn_nI (by omega)]
            exact ⟨by omega, d⟩
          · exact g i (by omega) e
        · refine h0 ⟨m, hm, r, fun z => d ?_⟩
          have := z.2
          rw [ew, tn_nI (by omega)] at this
          exact this
      · refine h0 ⟨m, hm, r, fun z => ?_⟩
        have := z.1
        rw [ew, tn_nI (by omega)] at this
        rcases c with c | c
        · exact absurd c (nI_pos (by omega))
        · rw [h7, nI_le_iff (by omega) (by omega)] at c
          omega
  · obtain ⟨rfl, rfl, g⟩ := hI
    unfold qX3_trialIsAsSeen_L2
    rw [e10]
    exact ⟨fun _ => h1 g, fun r => absurd (Int32.le_refl _) r⟩
theorem sok_fr {W i : Nat} {ρ σ σ' : Mem} (e5 : σ' 45 = σ 45) (e6 : σ' 46 = σ 46) : sok W ρ σ' i ↔ sok W ρ σ i := by
  unfold sok
  rw [e5, e6]
theorem s3_trialGoesAsSeen {W A t sn : Nat} {σ ρ : Mem} {post : Int32 → Mem → Prop} (v : Vd W A t ρ) (ht : t < 10000) (e0 : rg 7 σ = ρ) (hs : seenOk sn σ) (h1 : fits W sn ρ σ → ∀ σ', Fc 7 σ σ' → post 1 σ') (h0 : ¬ fits W sn ρ σ → ∀ σ', Fc 7 σ σ' → post 0 σ') : qX3_trialGoesAsSeen σ post := by
  have hW := v.2.1
  obtain ⟨hn, e10, hs2⟩ := hs
  unfold qX3_trialGoesAsSeen
  refine it2_inv sn (fun m y1 y2 σ' => y2 = nI m ∧ σ' = σ ∧ ∃ L, L ≤ 40 ∧ y1 = nI L ∧ ∀ i, i < m → ∃ u, u ≤ L ∧ σ 44 i = nI u) (fun m hm y1 y2 σ' hI K hK => ?_) (fun y1 y2 σ' hI K => ?_) 0 0 σ ⟨nI_0.symm, rfl, 0, by omega, nI_0.symm, fun i hi => absurd hi (Nat.not_lt_zero i)⟩
  · obtain ⟨rfl, rfl, L, hL, rfl, g⟩ := hI
    obtain ⟨⟨u, hu, eu⟩, -⟩ := hs2 m hm
    unfold qX3_trialGoesAsSeen_L4
    rw [e10, tn_nI (by omega), eu, nI_1]
    refine ⟨fun r => absurd ((nI_le_iff (by omega) (by omega)).mp r) (by omega), fun _ => ⟨in_nI (by omega) (by decide), ?_⟩⟩
    rintro _ rfl _ rfl
    have em : (if nI L < nI u then nI u else nI L) = nI (max L u) := iMax_nI (by omega) (by omega)
    rw [em]
    refine hK _ _ _ ⟨rfl, rfl, max L u, by omega, rfl, fun i hi => ?_⟩
    by_cases q : i = m
    · subst q; exact ⟨u, by omega, eu⟩
    · obtain ⟨x, hx, ex⟩ := g i (by omega)
      exact ⟨x, by omega, ex⟩
  · obtain ⟨rfl, rfl, L, hL, rfl, g⟩ := hI
    unfold qX3_trialGoesAsSeen_L4
    rw [e10]
    refine ⟨fun _ => ?_, fun r => absurd (Int32.le_refl _) r⟩
    refine it2_inv (L + 1) (fun k y1 y2 σ2 => y1 = nI L ∧ y2 = nI k ∧ rg 7 σ2 = o_run k ρ ∧ Fc 7 σ' σ2 ∧ ∀ i, i < sn → ∀ j, j < k → σ' 44 i = nI j → sok W (o_run j ρ) σ' i) (fun k hk y1 y2 σ2 hI K hK => ?_) (fun y1 y2 σ2 hI K => ?_) (nI L) 0 σ' ⟨rfl, nI_0.symm, e0, Fc.rf, fun i _ j hj => absurd hj (Nat.not_lt_zero j)⟩
    · obtain ⟨rfl, rfl, e2, f2, g2⟩ := hI
      unfold qX3_trialGoesAsSeen_L31
      refine ⟨fun r => absurd ((nI_lt_iff (by omega) (by omega)).mp r) (by omega), fun _ => ?_⟩
      have vk := v.run k (by omega)
      have w7 : σ2 7 2 = nI W := by
        have q := vk.1
        rw [← e2] at q
        exact q
      have e44 : σ2 44 = σ' 44 := f2 44 (by decide)
      have e45 : σ2 45 = σ' 45 := f2 45 (by decide)
      have e46 : σ2 46 = σ' 46 := f2 46 (by decide)
      refine s3_trialIsAsSeen (sn := sn) w7 hW ⟨hn, by rw [f2 0 (by decide)]; exact e10, by rw [e44, e45]; exact hs2⟩ (fun d => y1 ?_) (fun d => y0 ?_)
      · refine s0_passTick (W := W) (A := A) (t := t + k) (by rw [e2]; exact vk) (fun σ3 e3 f3 => ?_)
        rw [nI_1]
        rintro _ rfl
        refine hK _ _ _ ⟨rfl, rfl, by rw [e3, e2]; rfl, f2.tr f3, fun i hi j hj e => ?_⟩
        by_cases q : j = k
        · subst q
          have := d i hi (by rw [e44]; exact e)
          rw [sok_fr e45 e46, e2] at this
          exact this
        · exact g2 i hi j (by omega) e
      · obtain ⟨i, hi, d1, d2⟩ := d
        rw [sok_fr e45 e46, e2] at d2
        rw [e44] at d1
        refine h0 (fun z => d2 ?_) σ2 f2
        have := z i hi
        rw [d1, tn_nI (by omega)] at this
        exact this
    · obtain ⟨rfl, rfl, e2, f2, g2⟩ := hI
      unfold qX3_trialGoesAsSeen_L31
      refine ⟨fun _ => h1 (fun i hi => ?_) σ2 f2, fun r => absurd ((nI_lt_iff (by omega) (by omega)).mpr (by omega)) r⟩
      obtain ⟨u, hu, eu⟩ := g i hi
      rw [eu, tn_nI (by omega)]
      exact g2 i hi u (by omega) eu
/-- frame of the reference while it looks -/
def Fs (τ τ' : Mem) : Prop := (∀ c, c ≠ 0 → c ≠ 1 → c ≠ 7 → τ' c = τ c) ∧ (∀ k, k ≠ 16 → k ≠ 17 → τ' 0 k = τ 0 k) ∧ (∀ k, (k < 156 ∨ 195 ≤ k) → τ' 1 k = τ 1 k)
theorem Fs.rf {τ : Mem} : Fs τ τ := ⟨fun _ _ _ _ => rfl, fun _ _ _ => rfl, fun _ _ => rfl⟩
theorem Fs.tr {a b c : Mem} (h : Fs a b) (g : Fs b c) : Fs a c := ⟨fun k h0 h1 h2 => (g.1 k h0 h1 h2).trans (h.1 k h0 h1 h2), fun k h0 h1 => (g.2.1 k h0 h1).trans (h.2.1 k h0 h1), fun k hk => (g.2.2 k hk).trans (h.2.2 k hk)⟩
theorem Fm.s {τ τ' : Mem} (h : Fm 156 τ τ') : Fs τ τ' := ⟨fun c h0 h1 _ => h.1 c h0 h1, h.2.1, h.2.2⟩
theorem Fs.up7 {τ τ' : Mem} (h : Fs τ τ') (k : Nat) (v : Int32) : Fs τ (up2 τ' 7 k v) := ⟨fun c h0 h1 h2 => by rw [rd_c h2]; exact h.1 c h0 h1 h2, fun j a b => by rw [rd_cj (by decide)]; exact h.2.1 j a b, fun j hj => by rw [rd_cj (by decide)]; exact h.2.2 j hj⟩
/-- the things seen, as the reference keeps them -/
def seenM (sn : Nat) (σ τ : Mem) : Prop := τ 0 19 = nI sn ∧ ∀ i, i < sn → τ 6 (3 * i) = σ 44 i ∧ τ 6 (3 * i + 1) = σ 45 i ∧ τ 6 (3 * i + 2) = σ 46 i
theorem seenM.fs {sn : Nat} {σ τ τ' : Mem} (h : seenM sn σ τ) (f : Fs τ τ') : seenM sn σ τ' := by
  unfold seenM
  rw [f.2.1 19 (by decide) (by decide), f.1 6 (by decide) (by decide) (by decide)]
  exact h
/-- one tick's look at all that was seen -/
theorem as_inner {W A k sn : Nat} {a1 a2 x3 : Int32} {σ τ ρ : Mem} {d l : Int32} {post : Int32 → Mem → Prop} {K : Int32 → Int32 → Mem → Prop} (hW : W ≤ 4) (w4 : τ 1 16 = nI W) (hs : seenOk sn σ) (hm : seenM sn σ τ) (s : Sm 156 W A τ ρ d l) (hx : x3 = 0 ∨ x3 = 1) (hk : k ≤ 40) (h1 : (x3 = 1 ∧ ∀ i, i < sn → σ 44 i = nI k → sok W ρ σ i) → qX4_tickOn 156 0 τ (fun τ' => K 1 (nI (k + 1)) τ')) (h0 : (x3 = 0 ∨ ∃ i, i < sn ∧ σ 44 i = nI k ∧ ¬ sok W ρ σ i) → qX4_tickOn 156 0 τ (fun τ' => K 0 (nI (k + 1)) τ')) : ∃ n9, it3 (qX4_isAsSeen_L45 a1 a2 post K) n9 x3 (nI k) 0 τ := by
  obtain ⟨hn, -, hs2⟩ := hs
  obtain ⟨e19, hm2⟩ := hm
  refine it3_inv sn (fun m y3 y4 y5 τ' => y4 = nI k ∧ y5 = nI m ∧ τ' = τ ∧ ((y3 = 1 ∧ x3 = 1 ∧ ∀ i, i < m → σ 44 i = nI k → sok W ρ σ i) ∨ (y3 = 0 ∧ (x3 = 0 ∨ ∃ i, i < sn ∧ σ 44 i = nI k ∧ ¬ sok W ρ σ i)))) (fun m hmm y3 y4 y5 τ' hI K' hK' => ?_) (fun y3 y4 y5 τ' hI K' => ?_) x3 (nI k) 0 τ ⟨rfl, nI_0.symm, rfl, ?_⟩
  · obtain ⟨rfl, rfl, rfl, g⟩ := hI
    obtain ⟨⟨u, hu, eu⟩, w, hw, ew⟩ := hs2 m hmm
    obtain ⟨m0, m1, m2⟩ := hm2 m hmm
    unfold qX4_isAsSeen_L45
    rw [e19, show (3 : Int32) = nI 3 from rfl, pk_mul, nI_1 (3 * m), show (2 : Int32) = nI 2 from rfl, nI_add, tn_nI (by omega), tn_nI (by omega), m1, m2, ew, tl16, w4]
    refine ⟨fun r => absurd ((nI_le_iff (by omega) (by omega)).mp r) (by omega), fun _ => ⟨in_nI (by omega) (by decide), ?_⟩⟩
    rintro _ rfl
    rw [jx168, tn_nI (by omega)]
    have st : ∀ s0 : Int32, ((s0 = 1 ∧ sok W ρ σ m) ∨ (s0 = 0 ∧ ¬ sok W ρ σ m)) → qX4_isAsSeen_B109 a1 a2 post K K' y3 (nI k) (nI m) s0 τ' := by
      intro s0 h
      unfold qX4_isAsSeen_B109 qX4_isAsSeen_B138 qX4_isAsSeen_B134 qX4_isAsSeen_B139
      rw [show (3 : Int32) = nI 3 from rfl, pk_mul, tn_nI (by omega), m0, nI_1]
      rcases g with ⟨rfl, g1, g2⟩ | ⟨rfl, g1⟩
      · refine z1 ⟨in_nI (by omega) (by decide), fun r => ?_, fun r => ?_⟩
        · rintro _ rfl
          refine hK' _ _ _ _ ⟨rfl, rfl, rfl, Or.inl ⟨rfl, g1, fun i hi e => ?_⟩⟩
          by_cases q : i = m
          · subst q; exact absurd e r
          · exact g2 i (by omega) e
        · rcases h with ⟨rfl, h⟩ | ⟨rfl, h⟩
          · refine z1 ?_
            rintro _ rfl
            refine hK' _ _ _ _ ⟨rfl, rfl, rfl, Or.inl ⟨rfl, g1, fun i hi e => ?_⟩⟩
            by_cases q : i = m
            · subst q; exact h
            · exact g2 i (by omega) e
          · refine z0 ?_
            rintro _ rfl
            exact hK' _ _ _ _ ⟨rfl, rfl, rfl, Or.inr ⟨rfl, Or.inr ⟨m, hmm, r, h⟩⟩⟩
      · refine z0 ?_
        rintro _ rfl
        exact hK' _ _ _ _ ⟨rfl, rfl, rfl, Or.inr ⟨rfl, g1⟩⟩
    refine ⟨vl16_234, fun r => ?_, fun r => ?_⟩
    · unfold qX4_isAsSeen_B108
      refine st 0 (Or.inr ⟨rfl, fun z => ?_⟩)
      have := z.1
      rw [ew, tn_nI (by omega)] at this
      rw [nI_le_iff (by omega) (by omega)] at r
      omega
    · rw [nI_le_iff (by omega) (by omega)] at r
      have e4 : τ' 1 (168 + w) = ρ 4 w := (s.2.2.2.2.2.2.2.1 w (by omega)).2.2.2
      rw [e4]
      refine ⟨in_nI (by omega) (by decide), in_nI (by omega) (by decide), fun q => ?_, fun q => st 1 (Or.inl ⟨rfl, ?_⟩)⟩
      · unfold qX4_isAsSeen_B108
        refine st 0 (Or.inr ⟨rfl, fun z => q ?_⟩)
        have := z.2
        rw [ew, tn_nI (by omega)] at this
        exact this
      · unfold sok
        rw [ew, tn_nI (by omega)]
        exact ⟨by omega, q⟩
  · obtain ⟨rfl, rfl, rfl, g⟩ := hI
    unfold qX4_isAsSeen_L45
    rw [e19, nI_1]
    refine ⟨fun _ => ?_, fun r => absurd (Int32.le_refl _) r⟩
    have fin : ∀ z : Int32, qX4_tickOn 156 0 τ' (fun τ'' => K z (nI (k + 1)) τ'') → qX4_tickOn 156 0 τ' (fun σ151 => ∀ y4 : Int32, y4 = nI (k + 1) → K z y4 σ151) := by
      intro z hz
      have e : (fun σ151 : Mem => ∀ y4 : Int32, y4 = nI (k + 1) → K z y4 σ151) = (fun τ'' => K z (nI (k + 1)) τ'') := by
        funext x
        exact propext ⟨fun q => q _ rfl, fun q y ey => by rw [ey]; exact q⟩
      rw [e]
      exact hz
    rcases g with ⟨rfl, g1, g2⟩ | ⟨rfl, g1⟩
    · exact fin 1 (h1 ⟨g1, g2⟩)
    · exact fin 0 (h0 g1)
  · rcases hx with z | z
    · exact Or.inr ⟨z, Or.inl z⟩
    · exact Or.inl ⟨z, z, fun i hi => absurd hi (Nat.not_lt_zero i)⟩
theorem s4_isAsSeen {W A t w j sn : Nat} {σ τ ρ : Mem} {d l : Int32} {post : Int32 → Mem → Prop} (v : Vd W A t ρ) (ht : t < 10000) (hw : w < W) (hj : j < 10) (w4 : τ 1 16 = nI W) (h14 : τ 0 14 = -4) (h15 : τ 0 15 = -4) (hs : seenOk sn σ) (hm : seenM sn σ τ) (s : Sm 0 W A τ ρ d l) (h : ∀ r τ', ((r = 1 ∧ fits W sn ρ σ) ∨ (r = 0 ∧ ¬ fits W sn ρ σ)) → Fs τ τ' → (∀ k, k ≤ 40 → τ' 7 (41 * j + k) = o_run k ρ 4 w) → (∀ i, (i < 41 * j ∨ 41 * j + 41 ≤ i) → τ' 7 i = τ 7 i) → post r τ') : qX4_isAsSeen (nI j) (nI w) τ post := by
  have hW := v.2.1
  have hA := v.2.2.2.1
  obtain ⟨hn, e10, hs2⟩ := hs
  have hs : seenOk sn σ := ⟨hn, e10, hs2⟩
  unfold qX4_isAsSeen
  refine copy156 hW hA s (fun τ1 s1 g1 => ?_)
  refine it2_inv 41 (fun k y3 y4 τ' => y4 = nI k ∧ Sm 156 W A τ' (o_run k ρ) d l ∧ Fs τ τ' ∧ (∀ i, i < k → τ' 7 (41 * j + i) = o_run i ρ 4 w) ∧ (∀ i, (i < 41 * j ∨ 41 * j + 41 ≤ i) → τ' 7 i = τ 7 i) ∧ ((y3 = 1 ∧ ∀ i, i < sn → ∀ m, m < k → σ 44 i = nI m → sok W (o_run m ρ) σ i) ∨ (y3 = 0 ∧ ¬ fits W sn ρ σ))) (fun k hk y3 y4 τ' hI K hK => ?_) (fun y3 y4 τ' hI K => ?_) 1 0 τ1 ⟨nI_0.symm, s1, g1.s, fun i hi => absurd hi (Nat.not_lt_zero i), fun i _ => by rw [g1.1 7 (by decide) (by decide)], Or.inl ⟨rfl, fun i _ m hm => absurd hm (Nat.not_lt_zero m)⟩⟩
  · obtain ⟨rfl, s2, f2, b1, b2, g⟩ := hI
    unfold qX4_isAsSeen_L13
    have e4 : τ' 1 (168 + w) = o_run k ρ 4 w := (s2.2.2.2.2.2.2.2.1 w hw).2.2.2
    rw [jx168, show (41 : Int32) = nI 41 from rfl, pk_mul, nI_add, tn_nI (by omega), tn_nI (by omega), e4]
    refine ⟨fun r => absurd ((nI_lt_iff (a := 40) (by decide) (by omega)).mp r) (by omega), fun _ => ⟨in_nI (by omega) (by decide), in_nI (by omega) (by decide), ?_⟩⟩
    rintro _ rfl
    have f3 := f2.up7 (41 * j + k) (o_run k ρ 4 w)
    have s3 : Sm 156 W A (up2 τ' 7 (41 * j + k) (o_run k ρ 4 w)) (o_run k ρ) d l := s2.copy hW hA (fun i hi => rd_cj (by decide))
    have vk := v.run k (by omega)
    have nx : ∀ y : Int32, ((y = 1 ∧ ∀ i, i < sn → ∀ m, m < k + 1 → σ 44 i = nI m → sok W (o_run m ρ) σ i) ∨ (y = 0 ∧ ¬ fits W sn ρ σ)) → qX4_tickOn 156 0 (up2 τ' 7 (41 * j + k) (o_run k ρ 4 w)) (fun τ'' => K y (nI (k + 1)) τ'') := by
      intro y hy
      refine tick156 (by rw [f3.2.1 14 (by decide) (by decide)]; exact h14) (by rw [f3.2.1 15 (by decide) (by decide)]; exact h15) s3 vk (by omega) (fun τ4 s4 g4 => ?_)
      refine hK _ _ _ ⟨rfl, s4, f3.tr g4.s, fun i hi => ?_, fun i hi => ?_, hy⟩
      · rw [g4.1 7 (by decide) (by decide)]
        by_cases e : i = k
        · subst e; exact rd_eq _ _ _ _
        · rw [rd_ne (by omega)]; exact b1 i (by omega)
      · rw [g4.1 7 (by decide) (by decide), rd_ne (by omega)]; exact b2 i hi
    have w4' : up2 τ' 7 (41 * j + k) (o_run k ρ 4 w) 1 16 = nI W := by rw [f3.2.2 16 (by decide)]; exact w4
    have bad : ∀ i, i < sn → σ 44 i = nI k → ¬ sok W (o_run k ρ) σ i → ¬ fits W sn ρ σ := by
      intro i hi e1 e2 z
      have := z i hi
      rw [e1, tn_nI (by omega)] at this
      exact e2 this
    rcases g with ⟨rfl, g⟩ | ⟨rfl, g⟩
    · refine as_inner hW w4' hs (hm.fs f3) s3 (Or.inr rfl) (by omega) (fun z => nx 1 (Or.inl ⟨rfl, fun i hi m hmm e => ?_⟩)) (fun z => nx 0 (Or.inr ⟨rfl, ?_⟩))
      · by_cases q : m = k
        · subst q; exact z.2 i hi e
        · exact g i hi m (by omega) e
      · rcases z with z | ⟨i, hi, e1, e2⟩
        · exact absurd z (by decide)
        · exact bad i hi e1 e2
    · exact as_inner hW w4' hs (hm.fs f3) s3 (Or.inl rfl) (by omega) (fun z => absurd z.1 (by decide)) (fun _ => nx 0 (Or.inr ⟨rfl, g⟩))
  · obtain ⟨rfl, s2, f2, b1, b2, g⟩ := hI
    unfold qX4_isAsSeen_L13
    refine ⟨fun _ => ?_, fun r => absurd (by decide) r⟩
    rcases g with ⟨rfl, g⟩ | ⟨rfl, g⟩
    · refine ⟨isB_1, h 1 τ' (Or.inl ⟨rfl, fun i hi => ?_⟩) f2 (fun k hk => b1 k (by omega)) b2⟩
      obtain ⟨⟨u, hu, eu⟩, -⟩ := hs2 i hi
      rw [eu, tn_nI (by omega)]
      exact g i hi u (by omega) eu
    · exact ⟨isB_0, h 0 τ' (Or.inr ⟨rfl, g⟩) f2 (fun k hk => b1 k (by omega)) b2⟩
