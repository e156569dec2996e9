/-! PURE, 9: count, sheets -/
theorem s4_count {a1 : Int32} {W : Nat} {τ : Mem} {post : Int32 → Mem → Prop} (hw : τ 1 16 = nI W) (hW : W ≤ 4) (k0 : a1 = 0 → post (τ 0 19) τ) (k1 : a1 = 1 → post ((if τ 8 0 = 0 then 0 else 1) + (if τ 8 1 = 0 then 0 else 1)) τ) (k2 : a1 = 2 → post (τ 0 4) τ) (k3 : a1 = 3 → post (if τ 9 0 = -4 then -4 else τ 10 0) τ) (k4 : a1 = 4 → post (sumN (fun i => τ 1 (4 + i)) W) τ) (k5 : a1 = 5 → post (sumN (fun i => τ 1 (8 + i)) W) τ) (k6 : ¬ a1 = 0 → ¬ a1 = 1 → ¬ a1 = 2 → ¬ a1 = 3 → ¬ a1 = 4 → ¬ a1 = 5 → post (-1) τ) : qX4_count a1 τ post := by
  unfold qX4_count
  refine it3_inv W (fun k x y z τ' => x = sumN (fun i => τ 1 (4 + i)) k ∧ y = sumN (fun i => τ 1 (8 + i)) k ∧ z = nI k ∧ τ' = τ) (fun k hk x y z τ' hI K hK => ?_) (fun x y z τ' hI K => ?_) 0 0 0 τ ⟨rfl, rfl, nI_0.symm, rfl⟩
  · obtain ⟨rfl, rfl, rfl, rfl⟩ := hI
    unfold qX4_count_L7
    rw [tl16, hw, jx4, jx8, tn_nI (by omega), tn_nI (by omega)]
    refine ⟨vl16_234, fun z => absurd ((nI_le_iff (by omega) (by omega)).mp z) (by omega), fun _ => ⟨in_nI (by omega) (by decide), ?_⟩⟩
    rintro _ rfl
    refine ⟨in_nI (by omega) (by decide), ?_⟩
    rintro _ rfl _ rfl
    exact hK _ _ _ _ ⟨rfl, rfl, nI_1 k, rfl⟩
  · obtain ⟨rfl, rfl, rfl, rfl⟩ := hI
    unfold qX4_count_L7 qX4_count_B107 qX4_count_B121 qX4_count_B150
    rw [tl16, hw, tl0, tl1]
    refine ⟨vl16_234, fun _ => ⟨k0, fun n0 => ⟨fun e => ?_, fun n1 => ⟨k2, fun n2 => ⟨fun e => ?_, fun n3 => ⟨k4, fun n4 => ⟨k5, fun n5 => k6 n0 n1 n2 n3 n4 n5⟩⟩⟩⟩⟩⟩, fun z => absurd (Int32.le_refl _) z⟩
    · have := k1 e
      refine ⟨vl0_2, fun c => ⟨vl1_2, fun d => ?_, fun d => ?_⟩, fun c => ⟨vl1_2, fun d => ?_, fun d => ?_⟩⟩
      · rw [if_pos c, if_pos d] at this; exact this
      · rw [if_pos c, if_neg d] at this; exact this
      · rw [if_neg c, if_pos d] at this; exact this
      · rw [if_neg c, if_neg d] at this; exact this
    · have := k3 e
      refine ⟨in_nI (n := 0) (by decide) (by decide), fun c => ?_, fun c => ?_⟩
      · rw [if_neg c] at this; exact this
      · rw [if_pos c] at this; exact this
theorem sumN_eq {f g : Nat → Int32} : ∀ k, (∀ i, i < k → f i = g i) → sumN f k = sumN g k
  | 0, _ => rfl
  | k + 1, h => by rw [sumN, sumN, sumN_eq k (fun i hi => h i (by omega)), h k (by omega)]
theorem h_count : fp_count fw_Rel := by
  intro n σ τ a1 hR hn
  obtain ⟨W, A, t, v, ht, s, b⟩ := hR.1.get
  have h0 := fr_0 hR
  have hw := s.w v
  have hw3 : σ 1 2 = nI W := v.1
  have hW := v.2.1
  obtain ⟨-, r2, ⟨T, hT, eS, eT, -⟩, r4, ⟨sn, hs, eS5, eT5, -⟩, r6, r7⟩ := hR
  have no : ∀ {a b : Int32} {P : Prop}, a1 = a → ¬ a = b → (a1 = b → P) := fun e q z => absurd (e.symm.trans z) q
  unfold qX3_count
  refine ⟨fun e => ?_, fun n0 => ⟨fun e => ?_, fun n1 => ⟨fun e => ?_, fun n2 => ⟨fun e => ?_, fun n3 => ⟨fun e => ?_, fun n4 => ⟨fun e => ?_, fun n5 => ?_⟩⟩⟩⟩⟩⟩
  · exact s4_count hw hW (fun _ => ⟨by rw [eS5, eT5], h0⟩) (no e (by decide)) (no e (by decide)) (no e (by decide)) (no e (by decide)) (no e (by decide)) (fun z => absurd e z)
  · have q0 := r2.of 0 (by decide)
    have q1 := r2.of 1 (by decide)
    unfold qX3_count_B59 qX3_count_B73
    rw [tl0, tl1]
    have go : ∀ r : Int32, r = (if τ 8 0 = 0 then 0 else 1) + (if τ 8 1 = 0 then 0 else 1) → qX4_count a1 τ (fun r' τ' => r = r' ∧ fw_Rel (n + 1) σ τ') := fun r er => s4_count hw hW (no e (by decide)) (fun _ => ⟨er, h0⟩) (no e (by decide)) (no e (by decide)) (no e (by decide)) (no e (by decide)) (fun _ z => absurd e z)
    refine ⟨vl0_2, fun c => ⟨vl1_2, fun d => go _ ?_, fun d => go _ ?_⟩, fun c => ⟨vl1_2, fun d => go _ ?_, fun d => go _ ?_⟩⟩
    · rw [if_pos (q0.trans c), if_pos (q1.trans d)]
    · rw [if_pos (q0.trans c), if_neg (fun z => d (q1.symm.trans z))]
    · rw [if_neg (fun z => c (q0.symm.trans z)), if_pos (q1.trans d)]
    · rw [if_neg (fun z => c (q0.symm.trans z)), if_neg (fun z => d (q1.symm.trans z))]
  · exact s4_count hw hW (no e (by decide)) (no e (by decide)) (fun _ => ⟨by rw [eS, eT], h0⟩) (no e (by decide)) (no e (by decide)) (no e (by decide)) (fun _ _ z => absurd e z)
  · unfold qX3_count_B109
    have go : ∀ r : Int32, r = (if τ 9 0 = -4 then -4 else τ 10 0) → qX4_count a1 τ (fun r' τ' => r = r' ∧ fw_Rel (n + 1) σ τ') := fun r er => s4_count hw hW (no e (by decide)) (no e (by decide)) (no e (by decide)) (fun _ => ⟨er, h0⟩) (no e (by decide)) (no e (by decide)) (fun _ _ _ z => absurd e z)
    refine ⟨in_nI (n := 0) (by decide) (by decide), fun c => go _ ?_, fun c => go _ ?_⟩
    · rcases r6 0 (by decide) with ⟨_, q⟩ | ⟨q, _⟩
      · rw [if_pos q]
      · exact absurd c q
    · rcases r6 0 (by decide) with ⟨q, _⟩ | ⟨_, ln, sz, l2, l3, l4, l5, l6, l7, _⟩
      · exact absurd q c
      · rw [l5, if_neg, l7]
        · exact l6
        · intro z
          have := congrArg Int32.toInt z
          rw [nI_toInt (by omega)] at this
          have q : (-4 : Int32).toInt = -4 := rfl
          omega
  · refine s0_sumOfWheels hw3 hW (by decide) ?_
    refine s4_count hw hW (no e (by decide)) (no e (by decide)) (no e (by decide)) (no e (by decide)) (fun _ => ⟨?_, h0⟩) (no e (by decide)) (fun _ _ _ _ z => absurd e z)
    refine sumN_eq W (fun i hi => ?_)
    have := (s.2.2.2.2.2.2.2.1 i hi).2.1
    rw [Nat.zero_add, rg_a 2 (by decide) (by decide) (by omega)] at this
    exact this.symm
  · refine s0_sumOfWheels hw3 hW (by decide) ?_
    refine s4_count hw hW (no e (by decide)) (no e (by decide)) (no e (by decide)) (no e (by decide)) (no e (by decide)) (fun _ => ⟨?_, h0⟩) (fun _ _ _ _ _ z => absurd e z)
    refine sumN_eq W (fun i hi => ?_)
    have := (s.2.2.2.2.2.2.2.1 i hi).2.2.1
    rw [Nat.zero_add, rg_a 3 (by decide) (by decide) (by omega)] at this
    exact this.symm
  · exact s4_count hw hW (fun z => absurd z n0) (fun z => absurd z n1) (fun z => absurd z n2) (fun z => absurd z n3) (fun z => absurd z n4) (fun z => absurd z n5) (fun _ _ _ _ _ _ => ⟨rfl, h0⟩)
theorem s1_renew {b : Nat} {x y : Int32} {σ : Mem} {post : Mem → Prop} (h : ∀ σ', (∀ c, c ≠ b → c ≠ b + 1 → σ' c = σ c) → σ' b 0 = 1 → σ' b 1 = x → σ' b 2 = y → (∀ i, i < 40 → σ' (b + 1) i = 0) → post σ') : qX1_renew b x y σ post := by
  unfold qX1_renew
  rintro _ rfl _ rfl _ rfl
  refine it1_inv 40 (fun k z σ' => z = nI k ∧ (∀ c, c ≠ b → c ≠ b + 1 → σ' c = σ c) ∧ σ' b 0 = 1 ∧ σ' b 1 = x ∧ σ' b 2 = y ∧ (∀ i, i < k → σ' (b + 1) i = 0)) (fun k hk z σ' hI K hK => ?_) (fun z σ' hI K => ?_) 0 _ ⟨nI_0.symm, fun c h1 h2 => by rw [rd_c h1, rd_c h1, rd_c h1], by rw [rd_ne (by decide), rd_ne (by decide), rd_eq], by rw [rd_ne (by decide), rd_eq], rd_eq _ _ _ _, fun i hi => absurd hi (Nat.not_lt_zero i)⟩
  · obtain ⟨rfl, g1, g2, g3, g4, g5⟩ := hI
    unfold qX1_renew_L17
    refine ⟨fun z => absurd ((nI_le_iff (a := 40) (by omega) (by omega)).mp z) (by omega), fun _ => ⟨in_nI (by omega) (by decide), ?_⟩⟩
    rw [tn_nI (by omega)]
    rintro _ rfl _ rfl
    refine hK _ _ ⟨nI_1 k, fun c h1 h2 => by rw [rd_c h2]; exact g1 c h1 h2, by rw [rd_cj (by omega)]; exact g2, by rw [rd_cj (by omega)]; exact g3, by rw [rd_cj (by omega)]; exact g4, fun i hi => ?_⟩
    by_cases e : i = k
    · subst e; exact rd_eq _ _ _ _
    · rw [rd_ne e]; exact g5 i (by omega)
  · obtain ⟨rfl, g1, g2, g3, g4, g5⟩ := hI
    unfold qX1_renew_L17
    exact ⟨fun _ => h σ' g1 g2 g3 g4 g5, fun z => absurd (Int32.le_refl _) z⟩
/-- the sheets change, nothing else -/
theorem fr_6 {n : Nat} {σ τ σ' τ' : Mem} (h : fw_Rel n σ τ) (r6 : R6 σ' τ') (hs : ∀ c, c < 36 ∨ 44 ≤ c → σ' c = σ c) (ht : ∀ c, c ≠ 9 → c ≠ 10 → c ≠ 11 → τ' c = τ c) : fw_Rel (n + 1) σ' τ' := by
  obtain ⟨r1, r2, r3, r4, r5, -, r7⟩ := h
  have g : ∀ b, b ≤ 25 → rg b σ' = rg b σ := fun b h2 => rg_ext (fun j i hj => by have := rgk_lt hj; rw [hs _ (by omega)])
  have z := hs 0 (by omega)
  have y := ht 0 (by decide) (by decide) (by decide)
  have x := ht 1 (by decide) (by decide) (by decide)
  exact ⟨r1.fr (g 1 (by omega)) (fun k _ => by rw [x]), r2.fr (hs 32 (by omega)) (g 19 (by omega)) (g 25 (by omega)) (ht 8 (by decide) (by decide) (by decide)) (fun k _ _ => by rw [x]), r3.fr (by rw [hs 33 (by omega)]) (hs 34 (by omega)) (by rw [y]) (ht 3 (by decide) (by decide) (by decide)), r4.fr (by rw [z]) (by rw [z]) (by rw [y]) (by rw [y]), r5.fr (by rw [z]) (hs 44 (by omega)) (hs 45 (by omega)) (hs 46 (by omega)) (by rw [y]) (ht 6 (by decide) (by decide) (by decide)), r6, r7.fr (by rw [y]) (by rw [y]) (ht 4 (by decide) (by decide) (by decide)) (ht 5 (by decide) (by decide) (by decide))⟩
theorem h_sheet : fp_sheet fw_Rel := by
  intro n σ τ a1 a2 a3 hR hn
  have h0 := fr_0 hR
  unfold qX3_sheet qX3_sheet_B24
  refine s3_within (fun c1 c2 => z1 ?_) (fun c => z0 ?_)
  · refine s3_within (fun c3 c4 => z1 ?_) (fun c => z0 ?_)
    · refine ⟨fun c5 => ⟨fun c6 => ?_, fun c6 => ?_⟩, fun c5 => ?_⟩
      · have c1' := c1
        have c2' := c2
        have c3' := c3
        have c4' := c4
        have c5' := c5
        have c6' := c6
        obtain ⟨k, -, hk, rfl⟩ := rng_of 0 3 c1 c2 (by decide) (by decide)
        obtain ⟨l, -, hl, rfl⟩ := rng_of 0 2 c3 c4 (by decide) (by decide)
        obtain ⟨z, hz, rfl⟩ := nat_of (m := 40) c6 c5 (by decide)
        have hin : vp_in (nI k) 4 := in_nI (by omega) (by decide)
        rw [tn_nI (by omega)]
        refine ⟨hin, s1_renew (fun σ' g1 g2 g3 g4 g5 => ?_)⟩
        unfold qX4_sheet
        refine in_t (lo := 0) (hi := 3) rfl rfl c1' c2' (z1 (in_t (lo := 0) (hi := 2) rfl rfl c3' c4' (z1 ⟨fun _ => ⟨fun _ => ⟨hin, ?_⟩, fun q => absurd c6' q⟩, fun q => absurd c5' q⟩)))
        rw [tn_nI (by omega)]
        rintro _ rfl _ rfl
        refine it1_inv 40 (fun i x τ' => x = nI i ∧ (∀ c, c ≠ 9 → c ≠ 10 → c ≠ 11 → τ' c = τ c) ∧ τ' 9 = upd (τ 9) k (nI l) ∧ τ' 10 = upd (τ 10) k (nI z) ∧ (∀ j, j < i → τ' 11 (40 * k + j) = 0) ∧ (∀ j, (j < 40 * k ∨ 40 * k + 40 ≤ j) → τ' 11 j = τ 11 j)) (fun i hi x τ' hI K hK => ?_) (fun x τ' hI K => ?_) 0 _ ⟨nI_0.symm, fun c h1 h2 h3 => by rw [rd_c h2, rd_c h1], rfl, rfl, fun j hj => absurd hj (Nat.not_lt_zero j), fun j _ => rfl⟩
        · obtain ⟨rfl, f1, f2, f3, f4, f5⟩ := hI
          unfold qX4_sheet_L56
          rw [show (40 : Int32) = nI 40 from rfl, pk_mul, nI_add, tn_nI (by omega)]
          refine ⟨fun q => absurd ((nI_le_iff (a := 40) (by omega) (by omega)).mp q) (by omega), fun _ => ⟨in_nI (by omega) (by decide), ?_⟩⟩
          rintro _ rfl _ rfl
          refine hK _ _ ⟨nI_1 i, fun c h1 h2 h3 => by rw [rd_c h3]; exact f1 c h1 h2 h3, by rw [rd_c (by decide)]; exact f2, by rw [rd_c (by decide)]; exact f3, fun j hj => ?_, fun j hj => ?_⟩
          · by_cases e : j = i
            · subst e; exact rd_eq _ _ _ _
            · rw [rd_ne (by omega)]; exact f4 j (by omega)
          · rw [rd_ne (by omega)]; exact f5 j hj
        · obtain ⟨rfl, f1, f2, f3, f4, f5⟩ := hI
          unfold qX4_sheet_L56
          refine ⟨fun _ => ⟨rfl, fr_6 hR (fun j hj => ?_) (fun c hc => g1 c (by omega) (by omega)) f1⟩, fun q => absurd (Int32.le_refl _) q⟩
          rw [f2, f3]
          by_cases e : j = k
          · subst e
            right
            rw [g2, g3, g4, pk_us, pk_us]
            exact ⟨by decide, l, z, hl, hz, rfl, rfl, rfl, rfl, fun i hi => by rw [f4 i hi, g5 i hi]⟩
          · rw [pk_un e, pk_un e, g1 (36 + 2 * j) (by omega) (by omega), g1 (36 + 2 * j + 1) (by omega) (by omega)]
            rcases hR.2.2.2.2.2.1 j hj with q | ⟨q, ln, sz, l2, l3, l4, l5, l6, l7, l8⟩
            · exact Or.inl q
            · exact Or.inr ⟨q, ln, sz, l2, l3, l4, l5, l6, l7, fun i hi => by rw [f5 _ (by omega)]; exact l8 i hi⟩
      · unfold qX4_sheet
        exact in_t (lo := 0) (hi := 3) rfl rfl c1 c2 (z1 (in_t (lo := 0) (hi := 2) rfl rfl c3 c4 (z1 ⟨fun _ => ⟨fun q => absurd q c6, fun _ => ⟨rfl, h0⟩⟩, fun q => absurd c5 q⟩)))
      · unfold qX4_sheet qX4_sheet_B30
        exact in_t (lo := 0) (hi := 3) rfl rfl c1 c2 (z1 (in_t (lo := 0) (hi := 2) rfl rfl c3 c4 (z1 ⟨fun q => absurd q c5, fun _ => ⟨rfl, h0⟩⟩)))
    · unfold qX4_sheet qX4_sheet_B30
      exact in_t (lo := 0) (hi := 3) rfl rfl c1 c2 (z1 (in_f (lo := 0) (hi := 2) rfl rfl c (z0 ⟨rfl, h0⟩)))
  · unfold qX4_sheet qX4_sheet_B30
    exact in_f (lo := 0) (hi := 3) rfl rfl c (z0 ⟨rfl, h0⟩)
theorem sh8 (v : Int32) : (v <<< ((24 : Int32) &&& 31)) >>> ((24 : Int32) &&& 31) = v.toInt8.toInt32 := by
  rw [show ((24 : Int32) &&& 31) = 24 from rfl, i32_eq, pk_shr _ 24 24 (by decide), Int8.toInt_toInt32, Int32.toInt_toInt8]
  have h1 := pk_shl v 24 24 (by decide)
  have h2 : (v <<< (24 : Int32)).toInt = (v <<< (24 : Int32)).toBitVec.toInt := rfl
  have h3 : v.toInt = v.toBitVec.toInt := rfl
  rw [h2, h3, BitVec.toInt_eq_toNat_cond, BitVec.toInt_eq_toNat_cond, h1, Int.shiftRight_eq_div_pow]
  have h4 := v.toBitVec.isLt
  rw [Int.bmod_def]
  split <;> split <;> split <;> omega
theorem sh16 (v : Int32) : (v <<< ((16 : Int32) &&& 31)) >>> ((16 : Int32) &&& 31) = v.toInt16.toInt32 := by
  rw [show ((16 : Int32) &&& 31) = 16 from rfl, i32_eq, pk_shr _ 16 16 (by decide), Int16.toInt_toInt32, Int32.toInt_toInt16]
  have h1 := pk_shl v 16 16 (by decide)
  have h2 : (v <<< (16 : Int32)).toInt = (v <<< (16 : Int32)).toBitVec.toInt := rfl
  have h3 : v.toInt = v.toBitVec.toInt := rfl
  rw [h2, h3, BitVec.toInt_eq_toNat_cond, BitVec.toInt_eq_toNat_cond, h1, Int.shiftRight_eq_div_pow]
  have h4 := v.toBitVec.isLt
  rw [Int.bmod_def]
  split <;> split <;> split <;> omega
