/-! PURE, 26: the text told -/
theorem clear_ok (ρ : Mem) : Vd 0 0 0 (o_clear ρ) ∧ Bd 0 0 (o_clear ρ) ∧ o_clear ρ 0 10 = 0 ∧ o_clear ρ 0 11 = 0 := by
  refine ⟨⟨rfl, by decide, rfl, by decide, rfl, by decide, ⟨5, rfl, by decide, by decide⟩, fun i hi => absurd hi (Nat.not_lt_zero i), fun i hi => absurd hi (Nat.not_lt_zero i)⟩, ⟨0, fun _ => 0, rfl, fun i hi => absurd hi (Nat.not_lt_zero i), Nat.le_refl _⟩, rfl, rfl⟩
def y00 (b : Nat → Int32) (T : Nat) (ρ : Mem) : LnS := (tok4 b T 0, false, o_clear ρ)
theorem y00_ok (b : Nat → Int32) {T : Nat} (hT : T ≤ 160) (ρ : Mem) : VR T (y00 b T ρ) := ⟨(tok4_ok b (Nat.zero_le _) hT).1, 0, 0, (clear_ok ρ).1, (clear_ok ρ).2.1⟩
def resL (b : Nat → Int32) (T e : Nat) (y : LnS) : Int32 := if (itl b T e y).1.1 = 0 then nI e else -10 - nI (itl b T e y).1.2.1
theorem s2_tell {T e : Nat} {σ : Mem} {post : Int32 → Mem → Prop} (hT : T ≤ 160) (hl : σ 33 1 = nI T) (he : stopL (itl (σ 34) T e (y00 (σ 34) T (rg 13 σ)))) (hj : ∀ j, j < e → ¬ stopL (itl (σ 34) T j (y00 (σ 34) T (rg 13 σ))) ∧ j < 160) (h : ∀ σ', CR T σ σ' (itl (σ 34) T e (y00 (σ 34) T (rg 13 σ))) → post (resL (σ 34) T e (y00 (σ 34) T (rg 13 σ))) σ') : qX2_tell 13 σ post := by
  unfold qX2_tell
  refine s0_clear (fun σ1 e1 f1 => ?_)
  rintro _ rfl _ rfl _ rfl
  have k33 : ∀ j, j ≠ 2 → j ≠ 3 → j ≠ 7 → up2 (up2 (up2 σ1 33 2 0) 33 3 0) 33 7 0 33 j = σ 33 j := fun j h1 h2 h3 => by rw [rd_ne h3, rd_ne h2, rd_ne h1, f1 33 (by decide)]
  have kc : ∀ c, c ≠ 33 → up2 (up2 (up2 σ1 33 2 0) 33 3 0) 33 7 0 c = σ1 c := fun c h1 => by rw [rd_c h1, rd_c h1, rd_c h1]
  have k2 : up2 (up2 (up2 σ1 33 2 0) 33 3 0) 33 7 0 33 2 = 0 := by rw [rd_ne (by decide), rd_ne (by decide), rd_eq]
  have k3 : up2 (up2 (up2 σ1 33 2 0) 33 3 0) 33 7 0 33 3 = nI 0 := by rw [rd_ne (by decide), rd_eq]; rfl
  have k7 : up2 (up2 (up2 σ1 33 2 0) 33 3 0) 33 7 0 33 7 = 0 := rd_eq _ _ _ _
  generalize up2 (up2 (up2 σ1 33 2 0) 33 3 0) 33 7 0 = σ2 at *
  have k34 : σ2 34 = σ 34 := by rw [kc 34 (by decide), f1 34 (by decide)]
  have kr : rg 13 σ2 = o_clear (rg 13 σ) := by
    rw [← e1]
    exact rg_ext (fun j i hj => by have := rgk_lt hj; rw [kc _ (by omega)])
  refine s2_nextToken0 (T := T) (a := 0) (by rw [k33 1 (by decide) (by decide) (by decide)]; exact hl) hT (Nat.zero_le _) k2 k3 (fun σ3 g1 g2 g3 g4 => ?_)
  rw [k34] at g4
  have hV := y00_ok (σ 34) hT (rg 13 σ)
  have R0 : CR T σ σ3 (y00 (σ 34) T (rg 13 σ)) := by
    refine ⟨g4, by rw [g2, k33 1 (by decide) (by decide) (by decide)]; exact hl, by rw [g3, k7]; rfl, ?_, fun c hc hc2 => by rw [g1 c hc, kc c hc, f1 c (by omega)]⟩
    show rg 13 σ3 = o_clear (rg 13 σ)
    rw [← kr]
    exact rg_ext (fun j i hj => by have := rgk_lt hj; rw [g1 _ (by omega)])
  generalize y00 (σ 34) T (rg 13 σ) = y at *
  refine it1_inv e (fun L x2 σ' => x2 = nI L ∧ CR T σ σ' (itl (σ 34) T L y)) (fun L hL x2 σ' hI K hK => ?_) (fun x2 σ' hI K => ?_) 0 σ3 ⟨nI_0.symm, R0⟩
  · obtain ⟨rfl, R⟩ := hI
    obtain ⟨ns, h160⟩ := hj L hL
    have V := itl_ok (b := σ 34) hT hV L
    have q1 : (itl (σ 34) T L y).1.1 = 0 := Classical.byContradiction fun z => ns (Or.inl z)
    have q2 : ¬ (itl (σ 34) T L y).1.2.2.2.1 = 0 := fun z => ns (Or.inr z)
    obtain ⟨d3, d4, -⟩ := R.1.2.2 q1
    have hk := (V.1.2.2 q1).2.2.1
    have i4 : nI (itl (σ 34) T L y).1.2.2.2.1 = 0 ↔ (itl (σ 34) T L y).1.2.2.2.1 = 0 := nI_eq_iff (b := 0) (by omega) (by decide)
    unfold qX2_tell_L25
    refine ds_t ((R.1.w0 V.1).mpr q1) ?_
    rw [d4]
    refine cs_f (fun z => q2 (i4.mp z)) ⟨fun z => absurd ((nI_le_iff (a := 160) (by decide) (by omega)).mp z) (by omega), fun _ => ?_⟩
    refine s2_takeLine hT R V q1 (fun σ4 R4 => ?_)
    rw [nI_1]
    rintro _ rfl
    have VF := lnF_ok (b := σ 34) hT V
    exact s2_nextToken R4.2.1 hT (R4.2.2.2.2 34 (by decide) (by decide)) R4.1 VF.1 (fun σ5 f5 c5 => hK _ _ ⟨rfl, R4.fk f5 c5⟩)
  · obtain ⟨rfl, R⟩ := hI
    have V := itl_ok (b := σ 34) hT hV e
    have H := h σ' R
    unfold resL at H
    have hw := R.1.w0 V.1
    have b61 : qX2_tell_B61 13 post (nI e) σ' := by
      unfold qX2_tell_B61 qX2_tell_B79
      rw [R.1.2.1]
      refine ⟨fun z => ?_, fun z => ?_⟩
      · rw [if_neg (fun q => z (hw.mpr q))] at H; exact H
      · rw [if_pos (hw.mp z)] at H; exact H
    unfold qX2_tell_L25
    refine ⟨fun _ => b61, fun z => ⟨fun _ => b61, fun z2 => ?_⟩⟩
    have q1 := hw.mp z
    obtain ⟨d3, d4, -⟩ := R.1.2.2 q1
    rcases he with q | q
    · exact absurd q1 q
    · rw [d4, q] at z2
      exact absurd rfl z2
theorem s4_text {b : Nat → Int32} {T e : Nat} {τ ρ : Mem} {post : Int32 → Mem → Prop} (hT : T ≤ 160) (ht : tapeM b T τ) (e4 : τ 4 = s0M 4) (e5 : τ 5 = s0M 5) (he : stopL (itl b T e (y00 b T ρ))) (hj : ∀ j, j < e → ¬ stopL (itl b T j (y00 b T ρ)) ∧ j < 160) (h0 : ¬ (itl b T e (y00 b T ρ)).1.1 = 0 → ∀ τ', Fx τ τ' → post (resL b T e (y00 b T ρ)) (up2 (up2 τ' 0 4 0) 0 5 (nI (itl b T e (y00 b T ρ)).1.1))) (h1 : (itl b T e (y00 b T ρ)).1.1 = 0 → ∀ τ', (∃ W A, Vd W A 0 (itl b T e (y00 b T ρ)).2.2 ∧ Sm 0 W A τ' (itl b T e (y00 b T ρ)).2.2 0 0 ∧ Bd W 0 (itl b T e (y00 b T ρ)).2.2) → (∀ c, c ≠ 0 → c ≠ 1 → c ≠ 2 → c ≠ 8 → τ' c = τ c) → (∀ k, 39 ≤ k → τ' 1 k = τ 1 k) → (∀ j, j = 14 ∨ j = 15 ∨ j = 25 → τ' 0 j = τ 0 j) → τ' 0 4 = 0 → τ' 0 5 = 0 → τ' 0 19 = 0 → τ' 8 0 = 0 → τ' 8 1 = 0 → post (resL b T e (y00 b T ρ)) τ') : qX4_text τ post := by
  have hV := y00_ok b hT ρ
  unfold qX4_text
  rintro _ rfl _ rfl _ rfl
  have F0 : Fx τ (up2 (up2 (up2 τ 0 6 0) 0 8 0) 0 2 0) := ⟨fun c h0 _ => by rw [rd_c h0, rd_c h0, rd_c h0], fun j h2 hj => by rw [rd_ne h2, rd_ne (by omega), rd_ne (by omega)]⟩
  have g6 : up2 (up2 (up2 τ 0 6 0) 0 8 0) 0 2 0 0 6 = 0 := by rw [rd_ne (by decide), rd_ne (by decide), rd_eq]
  have g8 : up2 (up2 (up2 τ 0 6 0) 0 8 0) 0 2 0 0 8 = nI 0 := by rw [rd_ne (by decide), rd_eq]; rfl
  have g2 : up2 (up2 (up2 τ 0 6 0) 0 8 0) 0 2 0 0 2 = 0 := rd_eq _ _ _ _
  generalize up2 (up2 (up2 τ 0 6 0) 0 8 0) 0 2 0 = τ1 at *
  refine it2_inv 39 (fun k x1 x2 τ' => x1 = 0 ∧ x2 = nI k ∧ Fx τ τ' ∧ τ' 0 = τ1 0 ∧ (∀ i, i < k → τ' 2 i = 0)) (fun k hk x1 x2 τ' hI K hK => ?_) (fun x1 x2 τ' hI K => ?_) 0 0 τ1 ⟨rfl, nI_0.symm, F0, rfl, fun i hi => absurd hi (Nat.not_lt_zero i)⟩
  · obtain ⟨rfl, rfl, F, e0, g⟩ := hI
    unfold qX4_text_L19
    rw [tn_nI (by omega), nI_1]
    refine ⟨fun r => absurd ((nI_le_iff (a := 39) (by decide) (by omega)).mp r) (by omega), fun _ => ⟨in_nI (by omega) (by decide), ?_⟩⟩
    rintro _ rfl _ rfl
    refine hK _ _ _ ⟨rfl, rfl, F.u2 _ _, by rw [rd_c (by decide)]; exact e0, fun i hi => ?_⟩
    by_cases q : i = k
    · subst q; exact rd_eq _ _ _ _
    · rw [rd_ne q]; exact g i (by omega)
  · obtain ⟨rfl, rfl, F, e0, g⟩ := hI
    unfold qX4_text_L19
    refine ⟨fun _ => ?_, fun r => absurd (Int32.le_refl _) r⟩
    refine s4_readsOn0 (ht.fx F) (Nat.zero_le _) (by rw [e0]; exact g6) (by rw [e0]; exact g8) (fun τ2 f2 m2 => ?_)
    have M0 : MR τ τ2 (y00 b T ρ) := by
      refine ⟨m2, fun _ => ⟨by rw [f2.2 2 (by decide), e0, g2]; rfl, 0, 0, ⟨(clear_ok ρ).1, ?_, fun i hi => by rw [f2.1 2 (by decide)]; exact g _ (by omega)⟩, (clear_ok ρ).2.1⟩, F.tr f2.x⟩
      have z : ∀ k, k < 39 → vw τ2 1 k = 0 := fun k hk => by rw [vw_1, f2.1 2 (by decide)]; exact g k hk
      exact ⟨by rw [z 34 (by decide)]; rfl, by rw [z 35 (by decide)]; rfl, by rw [z 16 (by decide)]; rfl, by rw [z 33 (by decide)]; rfl, by rw [z 36 (by decide)]; rfl, by rw [z 37 (by decide)]; rfl, by rw [z 38 (by decide)]; rfl, fun i hi => absurd hi (Nat.not_lt_zero i), fun i hi => absurd hi (Nat.not_lt_zero i)⟩
    generalize y00 b T ρ = y at *
    refine it1_inv e (fun L x1 τ3 => x1 = nI L ∧ MR τ τ3 (itl b T L y)) (fun L hL x1 τ3 hI K' hK' => ?_) (fun x1 τ3 hI K' => ?_) 0 τ2 ⟨nI_0.symm, M0⟩
    · obtain ⟨rfl, M⟩ := hI
      obtain ⟨ns, h160⟩ := hj L hL
      have V := itl_ok (b := b) hT hV L
      have q1 : (itl b T L y).1.1 = 0 := Classical.byContradiction fun z => ns (Or.inl z)
      have q2 : ¬ (itl b T L y).1.2.2.2.1 = 0 := fun z => ns (Or.inr z)
      obtain ⟨d9, d8, d10, -⟩ := M.1.2.1 q1
      have hk := (V.1.2.2 q1).2.2.1
      have i4 : nI (itl b T L y).1.2.2.2.1 = 0 ↔ (itl b T L y).1.2.2.2.1 = 0 := nI_eq_iff (b := 0) (by omega) (by decide)
      unfold qX4_text_L42
      refine ds_t ((M.1.w0 V.1).mpr q1) ?_
      rw [d10]
      refine cs_f (fun z => q2 (i4.mp z)) ?_
      refine s4_readLine hT ht e4 e5 M V.1 q1 (fun τ4 M4 => ?_)
      rw [nI_1]
      rintro _ rfl
      exact hK' _ _ ⟨rfl, M4⟩
    · obtain ⟨rfl, M⟩ := hI
      have V := itl_ok (b := b) hT hV e
      have hw := M.1.w0 V.1
      have hlw := M.1.wl V.1
      have b66 : qX4_text_B66 post (nI e) τ3 := by
        unfold qX4_text_B66
        rintro _ rfl
        rw [rd_ne (by decide)]
        rintro _ rfl
        rw [rd_ne (by decide), rd_ne (by decide), rd_ne (by decide), rd_ne (by decide)]
        refine ⟨fun z => ?_, fun z => ?_⟩
        · have q1 := hlw.mp z
          have H1 := h1 q1
          obtain ⟨-, W, A, pg, bd⟩ := M.2.1 q1
          have fx := M.2.2
          have w6 : τ3 0 6 = 0 := hw.mpr q1
          refine it2_inv 39 (fun k x1 x2 τ5 => x1 = nI e ∧ x2 = nI k ∧ (∀ c, c ≠ 1 → τ5 c = up2 (up2 τ3 0 4 0) 0 5 (τ3 0 6) c) ∧ (∀ i, i < k → τ5 1 i = τ3 2 i) ∧ (∀ i, 39 ≤ i → τ5 1 i = τ3 1 i)) (fun k hk x1 x2 τ5 hI K2 hK2 => ?_) (fun x1 x2 τ5 hI K2 => ?_) (nI e) 0 _ ⟨rfl, nI_0.symm, fun _ _ => rfl, fun i hi => absurd hi (Nat.not_lt_zero i), fun _ _ => by rw [rd_cj (by decide), rd_cj (by decide)]⟩
          · obtain ⟨rfl, rfl, p1, p2, p3⟩ := hI
            unfold qX4_text_L96
            rw [tn_nI (by omega), nI_1]
            refine ⟨fun r => absurd ((nI_le_iff (a := 39) (by decide) (by omega)).mp r) (by omega), fun _ => ⟨in_nI (by omega) (by decide), in_nI (by omega) (by decide), ?_⟩⟩
            rintro _ rfl _ rfl
            refine hK2 _ _ _ ⟨rfl, rfl, fun c hc => by rw [rd_c hc]; exact p1 c hc, fun i hi => ?_, fun i hi => by rw [rd_ne (by omega)]; exact p3 i hi⟩
            by_cases q : i = k
            · subst q; rw [rd_eq, p1 2 (by decide), rd_cj (by decide), rd_cj (by decide)]
            · rw [rd_ne q]; exact p2 i (by omega)
          · obtain ⟨rfl, rfl, p1, p2, p3⟩ := hI
            unfold qX4_text_L96
            rw [tl0, tl1]
            refine ⟨fun _ => ?_, fun r => absurd (Int32.le_refl _) r⟩
            rintro _ rfl
            refine ⟨vl0_2, ?_⟩
            rintro _ rfl
            refine ⟨vl1_2, ?_⟩
            rintro _ rfl
            have er : resL b T e y = nI e := by rw [resL, if_pos q1]
            rw [er] at H1
            refine H1 _ ⟨W, A, pg.1, ?_, bd⟩ (fun c c0 c1 c2 c8 => ?_) (fun k hk => ?_) (fun j hj => ?_) ?_ ?_ ?_ ?_ (rd_eq _ _ _ _)
            · refine pg.2.1.copy pg.1.2.1 pg.1.2.2.2.1 (fun k hk => ?_)
              rw [Nat.zero_add, rd_cj (by decide), rd_cj (by decide), rd_cj (by decide), vw_1]
              exact p2 k hk
            · rw [rd_c c8, rd_c c8, rd_c c0, p1 c c1, rd_c c0, rd_c c0]
              exact fx.1 c c0 c2
            · rw [rd_cj (by decide), rd_cj (by decide), rd_cj (by decide), p3 k hk, fx.1 1 (by decide) (by decide)]
            · rw [rd_cj (by decide), rd_cj (by decide), rd_ne (by omega), p1 0 (by decide), rd_ne (by omega), rd_ne (by omega)]
              exact fx.2 j (by omega) (by omega)
            · rw [rd_cj (by decide), rd_cj (by decide), rd_ne (by decide), p1 0 (by decide), rd_ne (by decide), rd_eq]
            · rw [rd_cj (by decide), rd_cj (by decide), rd_ne (by decide), p1 0 (by decide), rd_eq]
              exact w6
            · rw [rd_cj (by decide), rd_cj (by decide), rd_eq]
            · rw [rd_ne (by decide), rd_eq]
        · have q1 : ¬ (itl b T e y).1.1 = 0 := fun q => z (hlw.mpr q)
          have H0 := h0 q1 τ3 M.2.2
          have er : resL b T e y = -10 - nI (itl b T e y).1.2.1 := by rw [resL, if_neg q1]
          rw [er] at H0
          rw [M.1.1, M.1.2.2 q1]
          exact H0
      unfold qX4_text_L42
      refine ⟨fun _ => b66, fun z => ⟨fun _ => b66, fun z2 => ?_⟩⟩
      have q1 := hw.mp z
      obtain ⟨d9, d8, d10, -⟩ := M.1.2.1 q1
      rcases he with q | q
      · exact absurd q1 q
      · rw [d10, q] at z2
        exact absurd rfl z2
