/-! PURE, 27: the text, both sides -/
theorem h_text : fp_text fw_Rel := by
  intro n σ τ hR hn
  have hR0 := hR
  obtain ⟨r1, r2, ⟨T, hT, eS, eT, eB⟩, r4, r5, r6, r7⟩ := hR
  have ht : tapeM (σ 34) T τ := ⟨hT, eT, fun i hi => (eB i hi).1, fun i hi => (eB i hi).2⟩
  obtain ⟨e, he, hj⟩ := itl_end (b := σ 34) hT (y00_ok (σ 34) hT (rg 13 σ))
  unfold qX3_text qX3_text_B74
  refine s2_tell hT eS he hj (fun σ1 R => ?_)
  have V := itl_ok (b := σ 34) hT (y00_ok (σ 34) hT (rg 13 σ)) e
  rintro _ rfl
  rintro _ rfl
  have hw := R.1.w0 V.1
  have e2 := R.1.1
  have fr := R.2.2.2.2
  have q11 : up2 (up2 σ1 0 11 (σ1 33 2)) 33 1 0 0 11 = σ1 33 2 := by rw [rd_cj (by decide), rd_eq]
  rw [q11]
  refine ⟨fun c => ?_, fun c => ?_⟩
  · have c0 : ¬ (itl (σ 34) T e (y00 (σ 34) T (rg 13 σ))).1.1 = 0 := fun z => c (hw.mpr z)
    refine s4_text hT ht r7.2.2.1 r7.2.2.2 he hj (fun _ τ1 F => ⟨rfl, ?_⟩) (fun z => absurd z c0)
    have kc : ∀ k, k ≠ 0 → k ≠ 33 → (k < 13 ∨ 19 ≤ k) → up2 (up2 σ1 0 11 (σ1 33 2)) 33 1 0 k = σ k := fun k h0 h33 hk => by rw [rd_c h33, rd_c h0]; exact fr k h33 hk
    have k0 : ∀ j, j ≠ 11 → up2 (up2 σ1 0 11 (σ1 33 2)) 33 1 0 0 j = σ 0 j := fun j h1 => by rw [rd_cj (by decide), rd_ne h1, fr 0 (by decide) (by decide)]
    have mc : ∀ (x : Int32) k, k ≠ 0 → k ≠ 2 → up2 (up2 τ1 0 4 0) 0 5 x k = τ k := fun x k h0 h2 => by rw [rd_c h0, rd_c h0]; exact F.1 k h0 h2
    have m0 : ∀ (x : Int32) j, j = 14 ∨ j = 15 ∨ j = 19 ∨ j = 25 → up2 (up2 τ1 0 4 0) 0 5 x 0 j = τ 0 j := fun x j h => by rw [rd_ne (by omega), rd_ne (by omega)]; exact F.2 j (by omega) (by omega)
    refine ⟨r1.fr (rg_ext (fun j i hj => by have := rgk_lt hj; rw [kc _ (by omega) (by omega) (by omega)])) (fun k _ => by rw [mc _ 1 (by decide) (by decide)]), r2.fr (kc 32 (by decide) (by decide) (by decide)) (rg_ext (fun j i hj => by have := rgk_lt hj; rw [kc _ (by omega) (by omega) (by omega)])) (rg_ext (fun j i hj => by have := rgk_lt hj; rw [kc _ (by omega) (by omega) (by omega)])) (mc _ 8 (by decide) (by decide)) (fun k _ _ => by rw [mc _ 1 (by decide) (by decide)]), ⟨0, by decide, rd_eq _ _ _ _, by rw [rd_ne (by decide), rd_eq]; rfl, fun i hi => absurd hi (Nat.not_lt_zero i)⟩, ⟨?_, ?_⟩, r5.fr (k0 10 (by decide)) (kc 44 (by decide) (by decide) (by decide)) (kc 45 (by decide) (by decide) (by decide)) (kc 46 (by decide) (by decide) (by decide)) (m0 _ 19 (by decide)) (mc _ 6 (by decide) (by decide)), r6.fr (fun k h1 h2 => kc k (by omega) (by omega) (by omega)) (mc _ 9 (by decide) (by decide)) (mc _ 10 (by decide) (by decide)) (mc _ 11 (by decide) (by decide)), r7.fr (m0 _ 14 (by decide)) (m0 _ 15 (by decide)) (mc _ 4 (by decide) (by decide)) (mc _ 5 (by decide) (by decide))⟩
    · rw [q11, rd_eq]; exact e2
    · rw [k0 12 (by decide), m0 _ 25 (by decide)]; exact r4.2
  · have c0 := hw.mp c
    refine s0_become (b := 1) (o := 13) (by decide) (fun σ2 er f2 _ => ?_)
    rintro _ rfl
    have kr : rg 1 σ2 = (itl (σ 34) T e (y00 (σ 34) T (rg 13 σ))).2.2 := by
      rw [er]
      rw [← R.2.2.2.1]
      exact rg_ext (fun j i hj => by have := rgk_lt hj; rw [rd_cj (by omega), rd_cj (by omega)])
    have kc : ∀ k, k ≠ 0 → k ≠ 33 → 19 ≤ k → σ2 k = σ k := fun k h0 h33 hk => by rw [f2 k (by omega), rd_c h33, rd_c h0]; exact fr k h33 (by omega)
    have k0 : ∀ j, j ≠ 11 → σ2 0 j = σ 0 j := fun j h1 => by rw [f2 0 (by decide), rd_cj (by decide), rd_ne h1, fr 0 (by decide) (by decide)]
    have k11 : σ2 0 11 = 0 := by rw [f2 0 (by decide), q11]; exact c
    have k33 : σ2 33 1 = 0 := by rw [f2 33 (by decide), rd_eq]
    refine it2_inv 2 (fun k x1 x2 σ3 => x1 = resL (σ 34) T e (y00 (σ 34) T (rg 13 σ)) ∧ x2 = nI k ∧ (∀ c, c ≠ 32 → σ3 c = up2 σ2 0 10 0 c) ∧ (∀ i, i < k → σ3 32 i = 0)) (fun k hk x1 x2 σ3 hI K hK => ?_) (fun x1 x2 σ3 hI K => ?_) _ 0 _ ⟨rfl, nI_0.symm, fun _ _ => rfl, fun i hi => absurd hi (Nat.not_lt_zero i)⟩
    · obtain ⟨rfl, rfl, p1, p2⟩ := hI
      unfold qX3_text_L56
      rw [tn_nI (by omega), nI_1]
      refine ⟨fun r => absurd ((nI_le_iff (a := 2) (by decide) (by omega)).mp r) (by omega), fun _ => ⟨in_nI (by omega) (by decide), ?_⟩⟩
      rintro _ rfl _ rfl
      refine hK _ _ _ ⟨rfl, rfl, fun c hc => by rw [rd_c hc]; exact p1 c hc, fun i hi => ?_⟩
      by_cases q : i = k
      · subst q; exact rd_eq _ _ _ _
      · rw [rd_ne q]; exact p2 i (by omega)
    · obtain ⟨rfl, rfl, p1, p2⟩ := hI
      unfold qX3_text_L56 qX3_text_B74
      refine ⟨fun _ => ?_, fun r => absurd (Int32.le_refl _) r⟩
      refine s4_text hT ht r7.2.2.1 r7.2.2.2 he hj (fun z => absurd c0 z) (fun _ τ1 pg mc m1 m0 t4 t5 t19 t80 t81 => ⟨rfl, ?_⟩)
      have sc : ∀ k, k ≠ 0 → k ≠ 33 → k ≠ 32 → 19 ≤ k → σ3 k = σ k := fun k h0 h33 h32 hk => by rw [p1 k h32, rd_c h0]; exact kc k h0 h33 hk
      have s0 : ∀ j, j ≠ 11 → j ≠ 10 → σ3 0 j = σ 0 j := fun j h1 h2 => by rw [p1 0 (by decide), rd_ne h2]; exact k0 j h1
      have sr : rg 1 σ3 = (itl (σ 34) T e (y00 (σ 34) T (rg 13 σ))).2.2 := by
        rw [← kr]
        exact rg_ext (fun j i hj => by have := rgk_lt hj; rw [p1 _ (by omega), rd_cj (by omega)])
      obtain ⟨W, A, v, sm, bd⟩ := pg
      refine ⟨⟨W, A, 0, by rw [sr]; exact v, by decide, by rw [sr]; exact sm, by rw [sr]; exact bd.mono (by omega)⟩, fun k hk => ⟨?_, fun z => absurd (p2 k hk) z⟩, ⟨0, by decide, by rw [p1 33 (by decide), rd_c (by decide), k33]; rfl, by rw [t4]; rfl, fun i hi => absurd hi (Nat.not_lt_zero i)⟩, ⟨?_, ?_⟩, ⟨0, by decide, by rw [p1 0 (by decide), rd_eq]; rfl, by rw [t19]; rfl, fun i hi => absurd hi (Nat.not_lt_zero i)⟩, r6.fr (fun k h1 h2 => sc k (by omega) (by omega) (by omega) (by omega)) (mc 9 (by decide) (by decide) (by decide) (by decide)) (mc 10 (by decide) (by decide) (by decide) (by decide)) (mc 11 (by decide) (by decide) (by decide) (by decide)), r7.fr (m0 14 (by decide)) (m0 15 (by decide)) (mc 4 (by decide) (by decide) (by decide) (by decide)) (mc 5 (by decide) (by decide) (by decide) (by decide))⟩
      · rw [p2 k hk]
        have : k = 0 ∨ k = 1 := by omega
        rcases this with rfl | rfl
        · exact t80
        · exact t81
      · rw [p1 0 (by decide), rd_ne (by decide), k11, t5]
      · rw [s0 12 (by decide) (by decide), m0 25 (by decide)]; exact r4.2
