/-! PURE, 2: the class's rig, method by method -/
theorem s0_hasWheel {b : Nat} {a1 : Int32} {σ : Mem} {post : Int32 → Mem → Prop} (h1 : ¬ a1 < 0 → ¬ σ b 2 ≤ a1 → post 1 σ) (h0 : (a1 < 0 ∨ σ b 2 ≤ a1) → post 0 σ) : qX0_hasWheel b a1 σ post := by
  unfold qX0_hasWheel qX0_hasWheel_B16 qX0_hasWheel_B17
  exact ⟨fun c => ⟨isB_0, h0 (Or.inl c)⟩, fun c => ⟨fun d => ⟨isB_0, h0 (Or.inr d)⟩, fun d => ⟨isB_1, h1 c d⟩⟩⟩
theorem s0_hasAct {b : Nat} {a1 : Int32} {σ : Mem} {post : Int32 → Mem → Prop} (h1 : ¬ a1 < 0 → ¬ σ b 7 ≤ a1 → post 1 σ) (h0 : (a1 < 0 ∨ σ b 7 ≤ a1) → post 0 σ) : qX0_hasAct b a1 σ post := by
  unfold qX0_hasAct qX0_hasAct_B16 qX0_hasAct_B17
  exact ⟨fun c => ⟨isB_0, h0 (Or.inl c)⟩, fun c => ⟨fun d => ⟨isB_0, h0 (Or.inr d)⟩, fun d => ⟨isB_1, h1 c d⟩⟩⟩
theorem s3_quotient {a0 a1 : Int32} {σ : Mem} {post : Int32 → Mem → Prop} (h : post (quo a0 a1) σ) : qX3_quotient a0 a1 σ post := by
  unfold qX3_quotient qX3_quotient_B11
  refine ⟨fun c => ?_, fun c => ⟨fun e => c (by rw [e]; exact Int32.le_refl 0), ?_⟩⟩
  · rw [quo, if_pos c] at h; exact h
  · rw [quo, if_neg c] at h; exact h
theorem s0_clearSums {b : Nat} {σ : Mem} {post : Mem → Prop} (h : ∀ σ', rg b σ' = up2 (up2 (up2 (rg b σ) 0 10 0) 0 11 0) 0 12 0 → Fc b σ σ' → post σ') : qX0_clearSums b σ post := by
  unfold qX0_clearSums
  rintro _ rfl _ rfl _ rfl
  refine h _ ?_ (((Fc.rf.up0 _ _).up0 _ _).up0 _ _)
  rw [rg_up0 _ _ _ _ rfl, rg_up0 _ _ _ _ rfl, rg_up0 _ _ _ _ rfl]
def o_clear (ρ : Mem) : Mem := up2 (up2 (up2 (up2 (up2 (up2 (up2 (up2 ρ 0 0 5) 0 1 0) 0 2 0) 0 7 0) 0 9 0) 0 10 0) 0 11 0) 0 12 0
theorem s0_clear {b : Nat} {σ : Mem} {post : Mem → Prop} (h : ∀ σ', rg b σ' = o_clear (rg b σ) → Fc b σ σ' → post σ') : qX0_clear b σ post := by
  unfold qX0_clear
  rintro _ rfl _ rfl _ rfl _ rfl _ rfl
  refine s0_clearSums (fun σ' h1 h2 => h σ' ?_ (Fc.tr (((((Fc.rf.up0 _ _).up0 _ _).up0 _ _).up0 _ _).up0 _ _) h2))
  rw [h1, rg_up0 _ _ _ _ rfl, rg_up0 _ _ _ _ rfl, rg_up0 _ _ _ _ rfl, rg_up0 _ _ _ _ rfl, rg_up0 _ _ _ _ rfl]
  rfl
theorem s0_takeLoad {b : Nat} {a1 : Int32} {σ : Mem} {post : Mem → Prop} (h : ∀ σ', rg b σ' = o_load a1 (rg b σ) → Fc b σ σ' → post σ') : qX0_takeLoad b a1 σ post := by
  unfold qX0_takeLoad
  rintro _ rfl _ rfl _ rfl _ rfl
  refine h _ ?_ (((Fc.rf.up0 _ _).up0 _ _).up0 _ _)
  rw [rg_up0 _ _ _ _ rfl, rg_up0 _ _ _ _ rfl, rg_up0 _ _ _ _ rfl, o_load, iMin, rg_s1, rg_s10, rg_s11]
  congr 1
  · congr 1
    rw [rd_ne (by decide)]
  · rw [rd_ne (by decide), rd_ne (by decide)]
theorem s0_joinedSwing {b : Nat} {a1 : Int32} {σ : Mem} {post : Int32 → Mem → Prop} (hin : vp_in a1 4) (h : post (o_joined a1.toNatClampNeg (rg b σ)) σ) : qX0_joinedSwing b a1 σ post := by
  unfold qX0_joinedSwing
  refine ⟨hin, ?_⟩
  rintro _ rfl
  refine s3_quotient ?_
  rintro _ rfl
  have hw : a1.toNatClampNeg < 4 := Nat.not_le.mp fun q => hin (Or.inr q)
  rw [o_joined, o_even, rg_a 1 (by decide) (by decide) hw, rg_a 4 (by decide) (by decide) hw, rg_a 2 (by decide) (by decide) hw, rg_s0, rg_s1] at h
  refine ⟨fun c => ?_, fun c => ⟨fun d => ⟨by decide, ?_⟩, fun d => ⟨fun e => ?_, fun e => ?_⟩⟩⟩
  · rw [if_pos c] at h; exact h
  · rw [if_neg c, if_pos d] at h; exact h
  · rw [if_neg c, if_neg d, if_pos e] at h; exact h
  · rw [if_neg c, if_neg d, if_neg e] at h; exact h
theorem s0_joinWheel {b : Nat} {a1 : Int32} {σ : Mem} {post : Mem → Prop} (hin : vp_in a1 4) (h : ∀ σ', rg b σ' = o_join a1.toNatClampNeg (rg b σ) → Fc b σ σ' → post σ') : qX0_joinWheel b a1 σ post := by
  unfold qX0_joinWheel
  refine ⟨hin, ?_⟩
  rintro _ rfl
  refine s0_joinedSwing hin ?_
  rintro _ rfl _ rfl
  refine h _ ?_ ((Fc.rf.up (by decide) _ _).up0 _ _)
  have hw : a1.toNatClampNeg < 4 := Nat.not_le.mp fun q => hin (Or.inr q)
  rw [rg_up0 _ _ _ _ rfl, rg_up b σ 4 _ _ (rgk_a (by decide) (by decide) hw), o_join, rg_s1, rg_a 4 (by decide) (by decide) hw, rd_eq]
theorem vp_of {w W : Int32} (h0 : ¬ w < 0) (h1 : ¬ W ≤ w) {n : Nat} (hW : W ≤ nI n) (hn : n < 2147483648) : vp_in w n := by
  rw [vp_in_iff]
  rw [i32_lt] at h0
  rw [i32_le] at h1 hW
  rw [nI_toInt hn] at hW
  have : (0 : Int32).toInt = 0 := rfl
  omega
theorem s0_perform {b : Nat} {a1 : Int32} {σ : Mem} {post : Mem → Prop} (hW : σ b 2 ≤ 4) (h : ∀ σ', rg b σ' = o_perform a1 (rg b σ) → Fc b σ σ' → post σ') : qX0_perform b a1 σ post := by
  unfold qX0_perform qX0_perform_B58
  rw [o_perform, rg_s2] at h
  refine ⟨fun c => ⟨fun d => ?_, fun d => ?_⟩, fun c => ?_⟩
  · rw [if_pos c, if_pos d] at h
    refine s0_hasWheel (fun e1 e2 => ⟨fun z => absurd z (by decide), fun _ => ?_⟩) (fun e => ⟨fun _ => ?_, fun z => absurd rfl z⟩)
    · rw [if_neg (by rintro (z | z); exact e1 z; exact e2 z)] at h
      exact s0_joinWheel (vp_of e1 e2 (n := 4) hW (by decide)) h
    · rw [if_pos e] at h
      exact h _ rfl Fc.rf
  · rw [if_pos c, if_neg d] at h
    exact s0_takeLoad h
  · rw [if_neg c] at h
    rintro _ rfl
    refine h _ ?_ (Fc.rf.up0 _ _)
    rw [rg_up0 _ _ _ _ rfl, o_drive, rg_s1]
theorem s0_passTickWith {b : Nat} {a1 : Int32} {σ : Mem} {post : Mem → Prop} {W : Nat} (hw : σ b 2 = nI W) (hW : W ≤ 4) (h : ∀ σ', rg b σ' = o_tickW a1 (rg b σ) → Fc b σ σ' → post σ') : qX0_passTick b a1 σ post := by
  unfold qX0_passTick
  refine s0_perform (by rw [hw]; exact (nI_le_iff (by omega) (by decide)).mpr hW) (fun σ1 e1 f1 => ?_)
  have hw1 : rg b σ1 0 2 = nI W := by rw [e1, (St.perform a1 (rg b σ)).2.1, rg_s2, hw]
  refine it1_inv W (fun k x σ' => x = nI k ∧ rg b σ' = o_loss k (rg b σ1) ∧ Fc b σ1 σ') (fun k hk x σ' hI K hK => ?_) (fun x σ' hI K => ?_) 0 σ1 ⟨nI_0.symm, rfl, Fc.rf⟩
  · obtain ⟨rfl, e2, f2⟩ := hI
    have hw2 : σ' b 2 = nI W := by
      have q := congrFun (congrFun e2 0) 2
      rw [rg_s2, (St.loss k (rg b σ1)).2.1, hw1] at q
      exact q
    unfold qX0_passTick_L7
    rw [hw2]
    refine ⟨fun z => absurd ((nI_le_iff (by omega) (by omega)).mp z) (by omega), fun _ => ⟨in_nI (by omega) (by decide), ?_⟩⟩
    rintro _ rfl _ rfl _ rfl _ rfl
    refine hK _ _ ⟨(nI_1 k), ?_, f2.tr ((Fc.rf.up (by decide) _ _).up0 _ _)⟩
    rw [tn_nI (by omega), rg_up0 _ _ _ _ rfl, rg_up b σ' 4 _ _ (rgk_a (by decide) (by decide) (by omega)), o_loss, ← e2, o_los, iMin, rg_a 4 (by decide) (by decide) (by omega), rg_a 3 (by decide) (by decide) (by omega), rg_s12, rd_cj (by omega)]
  · obtain ⟨rfl, e2, f2⟩ := hI
    have hw2 : σ' b 2 = nI W := by
      have q := congrFun (congrFun e2 0) 2
      rw [rg_s2, (St.loss W (rg b σ1)).2.1, hw1] at q
      exact q
    unfold qX0_passTick_L7
    rw [hw2]
    refine ⟨fun _ => ?_, fun z => absurd ((nI_le_iff (by omega) (by omega)).mpr (Nat.le_refl W)) z⟩
    rintro _ rfl
    refine h _ ?_ (f1.tr (f2.tr (Fc.rf.up0 _ _)))
    rw [rg_up0 _ _ _ _ rfl, o_tickW, o_tickT, rg_s2, hw, tn_nI (by omega), ← e1, ← e2, rg_s9]
theorem s0_dueNumber {b : Nat} {σ : Mem} {post : Int32 → Mem → Prop} (h : post (o_num (rg b σ)) σ) : qX0_dueNumber b σ post := by
  unfold qX0_dueNumber qX0_dueNumber_B20
  rw [o_num, rg_s7, rg_s9] at h
  refine ⟨fun c => ?_, fun c => ⟨fun e => c (by rw [e]; exact Int32.le_refl 0), ?_⟩⟩
  · rw [if_pos c] at h; exact h
  · rw [if_neg c] at h; exact h
theorem s0_dueAct {b : Nat} {σ : Mem} {post : Int32 → Mem → Prop} {W A t : Nat} (hV : Vd W A t (rg b σ)) (h : post (o_due (rg b σ)) σ) : qX0_dueAct b σ post := by
  unfold qX0_dueAct qX0_dueAct_B20
  obtain ⟨-, -, v3, v4, v5, v6, -⟩ := hV
  rw [rg_s7] at v3
  rw [rg_s9] at v5
  rw [o_due, rg_s7, rg_s9] at h
  refine ⟨fun c => ?_, fun c => s0_dueNumber ?_⟩
  · rw [if_pos c] at h; exact h
  · rw [if_neg c] at h
    have hA : 0 < A := by
      rcases Nat.eq_zero_or_pos A with z | z
      · rw [v3, z] at c; exact absurd (Int32.le_refl 0) c
      · exact z
    rw [o_num, rg_s7, rg_s9, if_neg c]
    have := Nat.mod_lt t hA
    rw [v3, v5, remI_nI (by omega) hA (by omega), tn_nI (by omega), rg_p (by omega)] at h
    rw [v3, v5, remI_nI (by omega) hA (by omega), tn_nI (by omega)]
    exact ⟨in_nI (by omega) (by decide), h⟩
theorem s0_passTick {b : Nat} {σ : Mem} {post : Mem → Prop} {W A t : Nat} (hV : Vd W A t (rg b σ)) (h : ∀ σ', rg b σ' = o_tick (rg b σ) → Fc b σ σ' → post σ') : qX0_dueAct b σ (fun r σ' => qX0_passTick b r σ' post) := by
  refine s0_dueAct hV (s0_passTickWith (W := W) hV.1 hV.2.1 h)
theorem s0_runTicks {b n : Nat} {σ : Mem} {post : Mem → Prop} {W A t : Nat} (hV : Vd W A t (rg b σ)) (hn : t + n < 20000) (h : ∀ σ', rg b σ' = o_run n (rg b σ) → Fc b σ σ' → post σ') : qX0_runTicks b (nI n) σ post := by
  unfold qX0_runTicks
  refine it1_inv n (fun k x σ' => x = nI k ∧ rg b σ' = o_run k (rg b σ) ∧ Fc b σ σ') (fun k hk x σ' hI K hK => ?_) (fun x σ' hI K => ?_) 0 σ ⟨nI_0.symm, rfl, Fc.rf⟩
  · obtain ⟨rfl, e2, f2⟩ := hI
    unfold qX0_runTicks_L2
    refine ⟨fun z => absurd ((nI_le_iff (by omega) (by omega)).mp z) (by omega), fun _ => ?_⟩
    refine s0_passTick (W := W) (A := A) (t := t + k) (by rw [e2]; exact hV.run k (by omega)) (fun σ2 e3 f3 => ?_)
    rintro _ rfl
    exact hK _ _ ⟨nI_1 k, by rw [e3, e2]; rfl, f2.tr f3⟩
  · obtain ⟨rfl, e2, f2⟩ := hI
    unfold qX0_runTicks_L2
    exact ⟨fun _ => h _ e2 f2, fun z => absurd ((nI_le_iff (by omega) (by omega)).mpr (Nat.le_refl n)) z⟩
theorem s0_shaftSpeed {b : Nat} {σ : Mem} {post : Int32 → Mem → Prop} (h : post (quo (rg b σ 0 1) (rg b σ 0 0)) σ) : qX0_shaftSpeed b σ post := by
  unfold qX0_shaftSpeed
  exact s3_quotient h
/-- the sum of the first k places of a row -/
def sumN (f : Nat → Int32) : Nat → Int32
  | 0 => 0
  | k + 1 => sumN f k + f k
theorem s0_sumOfWheels {b c n W : Nat} {σ : Mem} {post : Int32 → Mem → Prop} (hw : σ b 2 = nI W) (hW : W ≤ n) (hn : n < 1000) (h : post (sumN (σ c) W) σ) : qX0_sumOfWheels b c n σ post := by
  unfold qX0_sumOfWheels
  refine it2_inv W (fun k x y σ' => x = sumN (σ c) k ∧ y = nI k ∧ σ' = σ) (fun k hk x y σ' hI K hK => ?_) (fun x y σ' hI K => ?_) 0 0 σ ⟨rfl, nI_0.symm, rfl⟩
  · obtain ⟨rfl, rfl, rfl⟩ := hI
    unfold qX0_sumOfWheels_L4
    rw [hw]
    refine ⟨fun z => absurd ((nI_le_iff (by omega) (by omega)).mp z) (by omega), fun _ => ⟨in_nI (by omega) (by omega), ?_⟩⟩
    rintro _ rfl _ rfl
    exact hK _ _ _ ⟨by rw [tn_nI (by omega)]; rfl, nI_1 k, rfl⟩
  · obtain ⟨rfl, rfl, rfl⟩ := hI
    unfold qX0_sumOfWheels_L4
    rw [hw]
    exact ⟨fun _ => h, fun z => absurd ((nI_le_iff (by omega) (by omega)).mpr (Nat.le_refl W)) z⟩
theorem s0_allSwing {b W : Nat} {σ : Mem} {post : Int32 → Mem → Prop} (hw : σ b 2 = nI W) (hW : W ≤ 4) (h : post (rg b σ 0 1 + sumN (rg b σ 4) W) σ) : qX0_allSwing b σ post := by
  unfold qX0_allSwing
  refine s0_sumOfWheels hw hW (by decide) ?_
  have e : ∀ k, k ≤ W → sumN (rg b σ 4) k = sumN (σ (b + 4)) k := by
    intro k
    induction k with
    | zero => intro _; rfl
    | succ k ih => intro hk; rw [sumN, sumN, ih (by omega), rg_a 4 (by decide) (by decide) (by omega)]
  rw [e W (Nat.le_refl W)] at h
  exact h
/-- become: the other's numbers -/
theorem s0_become0 {b o : Nat} {σ : Mem} {post : Mem → Prop} (hbo : b + 6 ≤ o ∨ o + 6 ≤ b) (h : ∀ σ', (∀ i, i ≠ 3 → i ≠ 4 → i ≠ 5 → i ≠ 6 → i ≠ 8 → i < 13 → σ' b i = σ o i) → (∀ j, 1 ≤ j → j ≤ 4 → ∀ i, i < 4 → σ' (b + j) i = σ (o + j) i) → (∀ i, i < 16 → σ' (b + 5) i = σ (o + 5) i) → Fc b σ σ' → post σ') : qX0_become b o σ post := by
  unfold qX0_become
  rintro σ1 e1 σ2 e2 σ3 e3
  have f3 : Fc b σ σ3 := by rw [e3, e2, e1]; exact ((Fc.rf.up0 _ _).up0 _ _).up0 _ _
  have g3 : σ3 b 0 = σ o 0 ∧ σ3 b 1 = σ o 1 ∧ σ3 b 2 = σ o 2 := by
    rw [e3, e2, e1]
    refine ⟨?_, ?_, ?_⟩
    · rw [rd_ne (by decide), rd_ne (by decide), rd_eq]
    · rw [rd_ne (by decide), rd_eq, rd_cj (by omega)]
    · rw [rd_eq, rd_cj (by omega), rd_cj (by omega)]
  clear e1 e2 e3
  refine it1_inv 4 (fun k x σ' => x = nI k ∧ (σ' b 0 = σ o 0 ∧ σ' b 1 = σ o 1 ∧ σ' b 2 = σ o 2) ∧ (∀ j, 1 ≤ j → j ≤ 4 → ∀ i, i < k → σ' (b + j) i = σ (o + j) i) ∧ Fc b σ σ') (fun k hk x σ' hI K hK => ?_) (fun x σ' hI K => ?_) 0 σ3 ⟨nI_0.symm, g3, fun j _ _ i hi => absurd hi (Nat.not_lt_zero i), f3⟩
  · obtain ⟨rfl, ⟨g0, g1, g2⟩, g4, f4⟩ := hI
    unfold qX0_become_L26
    refine ⟨fun z => absurd ((nI_le_iff (a := 4) (by omega) (by omega)).mp z) (by omega), fun _ => ⟨in_nI (by omega) (by decide), ?_⟩⟩
    rw [tn_nI (by omega)]
    rintro σ5 e5 σ6 e6 σ7 e7 σ8 e8 _ rfl
    have fo : ∀ c, (c < b ∨ b + 6 ≤ c) → σ8 c = σ c := by
      intro c hc
      rw [e8, e7, e6, e5, rd_c (by omega), rd_c (by omega), rd_c (by omega), rd_c (by omega)]
      exact f4 c hc
    refine hK _ _ ⟨nI_1 k, ?_, ?_, fo⟩
    · rw [e8, e7, e6, e5, rd_c (by omega), rd_c (by omega), rd_c (by omega), rd_c (by omega)]
      exact ⟨g0, g1, g2⟩
    · have o1 : σ' (o + 1) = σ (o + 1) := f4 _ (by omega)
      have o2 : σ5 (o + 2) = σ (o + 2) := by rw [e5, rd_c (by omega)]; exact f4 _ (by omega)
      have o3 : σ6 (o + 3) = σ (o + 3) := by rw [e6, e5, rd_c (by omega), rd_c (by omega)]; exact f4 _ (by omega)
      have o4 : σ7 (o + 4) = σ (o + 4) := by rw [e7, e6, e5, rd_c (by omega), rd_c (by omega), rd_c (by omega)]; exact f4 _ (by omega)
      intro j h1 h4 i hi
      by_cases hik : i = k
      · subst hik
        rcases (show j = 1 ∨ j = 2 ∨ j = 3 ∨ j = 4 by omega) with rfl | rfl | rfl | rfl
        · rw [e8, rd_cj (by omega), e7, rd_cj (by omega), e6, rd_cj (by omega), e5, rd_eq, o1]
        · rw [e8, rd_cj (by omega), e7, rd_cj (by omega), e6, rd_eq, o2]
        · rw [e8, rd_cj (by omega), e7, rd_eq, o3]
        · rw [e8, rd_eq, o4]
      · rw [e8, rd_if, if_neg (by omega), e7, rd_if, if_neg (by omega), e6, rd_if, if_neg (by omega), e5, rd_if, if_neg (by omega)]
        exact g4 j h1 h4 i (by omega)
  · obtain ⟨rfl, ⟨g0, g1, g2⟩, g4, f4⟩ := hI
    unfold qX0_become_L26
    refine ⟨fun _ => ?_, fun z => absurd (Int32.le_refl _) z⟩
    intro σ5 e5
    have g7 : σ5 b 7 = σ o 7 := by rw [e5, rd_eq, f4 o (by omega)]
    have f5 : Fc b σ σ5 := by rw [e5]; exact f4.up0 _ _
    have g0 : σ5 b 0 = σ o 0 := by rw [e5, rd_ne (by decide)]; exact g0
    have g1 : σ5 b 1 = σ o 1 := by rw [e5, rd_ne (by decide)]; exact g1
    have g2 : σ5 b 2 = σ o 2 := by rw [e5, rd_ne (by decide)]; exact g2
    have g4 : ∀ j, 1 ≤ j → j ≤ 4 → ∀ i, i < 4 → σ5 (b + j) i = σ (o + j) i := by
      intro j h1 h2 i hi
      rw [e5, rd_cj (by omega)]
      exact g4 j h1 h2 i hi
    clear e5
    refine it1_inv 16 (fun k x σ' => x = nI k ∧ (σ' b = σ5 b) ∧ (∀ j, 1 ≤ j → j ≤ 4 → σ' (b + j) = σ5 (b + j)) ∧ (∀ i, i < k → σ' (b + 5) i = σ (o + 5) i) ∧ Fc b σ σ') (fun k hk x σ' hI K hK => ?_) (fun x σ' hI K => ?_) 0 σ5 ⟨nI_0.symm, rfl, fun _ _ _ => rfl, fun i hi => absurd hi (Nat.not_lt_zero i), f5⟩
    · obtain ⟨rfl, k1, k2, k3, k4⟩ := hI
      unfold qX0_become_L95
      refine ⟨fun z => absurd ((nI_le_iff (a := 16) (by omega) (by omega)).mp z) (by omega), fun _ => ⟨in_nI (by omega) (by decide), ?_⟩⟩
      rw [tn_nI (by omega)]
      rintro σ6 e6 _ rfl
      refine hK _ _ ⟨nI_1 k, by rw [e6, rd_c (by omega)]; exact k1, fun j h1 h2 => by rw [e6, rd_c (by omega)]; exact k2 j h1 h2, fun i hi => ?_, by rw [e6]; exact k4.up (by decide) _ _⟩
      by_cases hik : i = k
      · subst hik; rw [e6, rd_eq, k4 _ (by omega)]
      · rw [e6, rd_ne hik]; exact k3 i (by omega)
    · obtain ⟨rfl, k1, k2, k3, k4⟩ := hI
      unfold qX0_become_L95
      refine ⟨fun _ => ?_, fun z => absurd (Int32.le_refl _) z⟩
      rintro σ6 e6 σ7 e7 σ8 e8 σ9 e9
      have q9 : σ9 b 9 = σ o 9 ∧ σ9 b 10 = σ o 10 ∧ σ9 b 11 = σ o 11 ∧ σ9 b 12 = σ o 12 := by
        refine ⟨?_, ?_, ?_, ?_⟩
        · rw [e9, rd_ne (by decide), e8, rd_ne (by decide), e7, rd_ne (by decide), e6, rd_eq, k4 o (by omega)]
        · rw [e9, rd_ne (by decide), e8, rd_ne (by decide), e7, rd_eq, e6, rd_cj (by omega), k4 o (by omega)]
        · rw [e9, rd_ne (by decide), e8, rd_eq, e7, rd_cj (by omega), e6, rd_cj (by omega), k4 o (by omega)]
        · rw [e9, rd_eq, e8, rd_cj (by omega), e7, rd_cj (by omega), e6, rd_cj (by omega), k4 o (by omega)]
      have hoth : ∀ c, c ≠ b → σ9 c = σ' c := by
        intro c hc
        rw [e9, rd_c hc, e8, rd_c hc, e7, rd_c hc, e6, rd_c hc]
      have hlow : ∀ i, i < 9 → σ9 b i = σ' b i := by
        intro i hi
        rw [e9, rd_ne (by omega), e8, rd_ne (by omega), e7, rd_ne (by omega), e6, rd_ne (by omega)]
      refine h _ ?_ ?_ ?_ ?_
      · intro i h3 h4 h5 h6 h8 h13
        rcases (show i = 0 ∨ i = 1 ∨ i = 2 ∨ i = 7 ∨ i = 9 ∨ i = 10 ∨ i = 11 ∨ i = 12 by omega) with rfl | rfl | rfl | rfl | rfl | rfl | rfl | rfl
        · rw [hlow 0 (by decide), k1]; exact g0
        · rw [hlow 1 (by decide), k1]; exact g1
        · rw [hlow 2 (by decide), k1]; exact g2
        · rw [hlow 7 (by decide), k1]; exact g7
        · exact q9.1
        · exact q9.2.1
        · exact q9.2.2.1
        · exact q9.2.2.2
      · intro j h1 h2 i hi
        rw [hoth _ (by omega), k2 j h1 h2]
        exact g4 j h1 h2 i hi
      · intro i hi
        rw [hoth _ (by omega)]
        exact k3 i hi
      · intro c hc
        rw [hoth _ (by omega)]
        exact k4 c hc

theorem s0_become {b o : Nat} {σ : Mem} {post : Mem → Prop} (hbo : b + 6 ≤ o ∨ o + 6 ≤ b) (h : ∀ σ', rg b σ' = rg o σ → Fc b σ σ' → (∀ i, i < 4 → σ' (b + 4) i = σ (o + 4) i) → post σ') : qX0_become b o σ post := by
  refine s0_become0 hbo (fun σ' h1 h2 h3 hF => h σ' (rg_ext (fun j i hk => ?_)) hF (h2 4 (by decide) (by decide)))
  simp only [rgk, rgs, Bool.or_eq_true, Bool.and_eq_true, beq_iff_eq, decide_eq_true_eq] at hk
  rcases hk with (⟨rfl, hs⟩ | ⟨⟨q1, q2⟩, q3⟩) | ⟨rfl, q3⟩
  · exact h1 i (by omega) (by omega) (by omega) (by omega) (by omega) (by omega)
  · exact h2 j q1 q2 i q3
  · exact h3 i q3
/-- sums at 0 -/
def o_zero (ρ : Mem) : Mem := up2 (up2 (up2 ρ 0 10 0) 0 11 0) 0 12 0
theorem s0_startAs {b o : Nat} {σ : Mem} {post : Mem → Prop} (hbo : b + 6 ≤ o ∨ o + 6 ≤ b) (h : ∀ σ', rg b σ' = o_zero (rg o σ) → Fc b σ σ' → post σ') : qX0_startAs b o σ post := by
  unfold qX0_startAs
  refine s0_become hbo (fun σ1 e1 f1 _ => s0_clearSums (fun σ2 e2 f2 => h σ2 (by rw [e2, e1]; rfl) (f1.tr f2)))
theorem St.zero (ρ : Mem) : St ρ (o_zero ρ) := ((St.up10 ρ _).tr (St.up11 _ _)).tr (St.up12 _ _)
