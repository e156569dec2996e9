/-! PURE, 14: when all is as now -/
theorem s0_swingsAs {W : Nat} {σ : Mem} {post : Int32 → Mem → Prop} (h7 : σ 7 2 = nI W) (hq : σ 1 2 = nI W) (hW : W ≤ 4) (h1 : rg 7 σ 0 1 = rg 1 σ 0 1 → (∀ i, i < W → rg 7 σ 4 i = rg 1 σ 4 i) → post 1 σ) (h0 : (¬ rg 7 σ 0 1 = rg 1 σ 0 1 ∨ ∃ i, i < W ∧ ¬ rg 7 σ 4 i = rg 1 σ 4 i) → post 0 σ) : qX0_swingsAs 7 1 σ post := by
  unfold qX0_swingsAs qX0_swingsAs_B22
  rw [h7, hq]
  refine ⟨fun c => h0 (Or.inl c), fun c => ⟨fun _ => ?_, fun d => absurd rfl d⟩⟩
  refine it1_inv W (fun k y σ' => y = nI k ∧ σ' = σ ∧ ∀ i, i < k → rg 7 σ 4 i = rg 1 σ 4 i) (fun k hk y σ' hI K hK => ?_) (fun y σ' hI K => ?_) 0 σ ⟨nI_0.symm, rfl, fun i hi => absurd hi (Nat.not_lt_zero i)⟩
  · obtain ⟨rfl, rfl, g⟩ := hI
    unfold qX0_swingsAs_L26
    have e7 : σ' (7 + 4) k = rg 7 σ' 4 k := by rw [rg_a 4 (by decide) (by decide) (by omega)]
    have e1 : σ' (1 + 4) k = rg 1 σ' 4 k := by rw [rg_a 4 (by decide) (by decide) (by omega)]
    rw [h7, tn_nI (by omega), e7, e1, nI_1]
    refine ⟨fun r => absurd ((nI_le_iff (by omega) (by omega)).mp r) (by omega), fun _ => ⟨in_nI (by omega) (by decide), fun r => ?_, fun r => h0 (Or.inr ⟨k, hk, r⟩)⟩⟩
    rintro _ rfl
    refine hK _ _ ⟨rfl, rfl, fun i hi => ?_⟩
    by_cases e : i = k
    · subst e; exact r
    · exact g i (by omega)
  · obtain ⟨rfl, rfl, g⟩ := hI
    unfold qX0_swingsAs_L26
    rw [h7]
    exact ⟨fun _ => h1 c g, fun r => absurd (Int32.le_refl _) r⟩
theorem mod_same {t k A : Nat} : (t + k) % A = t % A ↔ k % A = 0 := by
  constructor
  · intro h
    have := Nat.sub_mod_eq_zero_of_mod_eq h
    rwa [Nat.add_sub_cancel_left] at this
  · intro h
    rw [Nat.add_mod, h, Nat.add_zero, Nat.mod_mod]
/-- after k ticks all is as now -/
def asN (W A k : Nat) (ρ : Mem) : Prop := (0 < A → k % A = 0) ∧ o_run k ρ 0 1 = ρ 0 1 ∧ ∀ i, i < W → o_run k ρ 4 i = ρ 4 i
theorem num_same {W A t k : Nat} {ρ : Mem} (v : Vd W A t ρ) (hk : t + k < 20000) : o_num (o_run k ρ) = o_num ρ ↔ (0 < A → k % A = 0) := by
  have vk := v.run k hk
  obtain ⟨-, -, v3, v4, v5, v6, -⟩ := v
  obtain ⟨-, -, k3, k4, k5, k6, -⟩ := vk
  unfold o_num
  rw [v3, k3, v5, k5]
  rcases Nat.eq_zero_or_pos A with z | z
  · subst z
    have hz : nI 0 ≤ 0 := Int32.le_refl 0
    rw [if_pos hz, if_pos hz]
    exact ⟨fun _ h => absurd h (by decide), fun _ => rfl⟩
  · have hz := nIpos z (by omega)
    have m1 := Nat.mod_lt (t + k) z
    have m2 := Nat.mod_lt t z
    rw [if_neg hz, if_neg hz, remI_nI (by omega) z (by omega), remI_nI (by omega) z (by omega), nI_eq_iff (by omega) (by omega), mod_same]
    exact ⟨fun h _ => h, fun h => h z⟩
theorem ag_flag {W : Nat} {x1 x2 s0 : Int32} {τ : Mem} {post : Int32 → Mem → Prop} {K : Int32 → Int32 → Mem → Prop} (w4 : τ 1 16 = nI W) (hW : W ≤ 4) (hs : s0 = 0 ∨ s0 = 1) (h1 : s0 = 1 → (∀ i, i < W → τ 1 (168 + i) = τ 1 (12 + i)) → post x2 τ) (h0 : (s0 = 0 ∨ ∃ i, i < W ∧ ¬ τ 1 (168 + i) = τ 1 (12 + i)) → K x1 (x2 + 1) τ) : qX4_again_B66 post K x1 x2 s0 τ := by
  unfold qX4_again_B66
  refine it4_inv W (fun k y1 y2 y3 y4 τ' => y1 = x1 ∧ y2 = x2 ∧ y4 = nI k ∧ τ' = τ ∧ ((y3 = 1 ∧ s0 = 1 ∧ ∀ i, i < k → τ 1 (168 + i) = τ 1 (12 + i)) ∨ (y3 = 0 ∧ (s0 = 0 ∨ ∃ i, i < W ∧ ¬ τ 1 (168 + i) = τ 1 (12 + i))))) (fun k hk y1 y2 y3 y4 τ' hI K' hK' => ?_) (fun y1 y2 y3 y4 τ' hI K' => ?_) x1 x2 s0 0 τ ⟨rfl, rfl, nI_0.symm, rfl, ?_⟩
  · obtain ⟨rfl, rfl, rfl, rfl, g⟩ := hI
    unfold qX4_again_L70 qX4_again_B114 qX4_again_B115
    rw [tl16, w4, jx168, jx12, tn_nI (by omega), tn_nI (by omega), nI_1]
    refine ⟨vl16_234, fun r => absurd ((nI_le_iff (by omega) (by omega)).mp r) (by omega), fun _ => ?_⟩
    rcases g with ⟨rfl, g1, g2⟩ | ⟨rfl, g1⟩
    · refine z1 ⟨in_nI (by omega) (by decide), in_nI (by omega) (by decide), fun r => ?_, fun r => ?_⟩
      · rintro _ rfl
        exact hK' _ _ _ _ _ ⟨rfl, rfl, rfl, rfl, Or.inr ⟨rfl, Or.inr ⟨k, hk, r⟩⟩⟩
      · rintro _ rfl
        refine hK' _ _ _ _ _ ⟨rfl, rfl, rfl, rfl, Or.inl ⟨rfl, g1, fun i hi => ?_⟩⟩
        by_cases e : i = k
        · subst e; exact r
        · exact g2 i (by omega)
    · refine z0 ?_
      rintro _ rfl
      exact hK' _ _ _ _ _ ⟨rfl, rfl, rfl, rfl, Or.inr ⟨rfl, g1⟩⟩
  · obtain ⟨rfl, rfl, rfl, rfl, g⟩ := hI
    unfold qX4_again_L70
    rw [tl16, w4]
    refine ⟨vl16_234, fun _ => ?_, fun r => absurd (Int32.le_refl _) r⟩
    rcases g with ⟨rfl, g1, g2⟩ | ⟨rfl, g1⟩
    · exact z1 (h1 g1 g2)
    · refine z0 ?_
      rintro _ rfl
      exact h0 g1
  · rcases hs with z | z
    · exact Or.inr ⟨z, Or.inl z⟩
    · exact Or.inl ⟨z, z, fun i hi => absurd hi (Nat.not_lt_zero i)⟩
/-- the reference's comparing after k ticks -/
theorem ag_cmp {W A t k : Nat} {τ τ' ρ : Mem} {post : Int32 → Mem → Prop} {K : Int32 → Int32 → Mem → Prop} (v : Vd W A t ρ) (hk : t + k < 20000) (s : Sm 0 W A τ ρ (τ 1 37) (τ 1 38)) (s' : Sm 156 W A τ' (o_run k ρ) (τ 1 37) (τ 1 38)) (q : Qm τ τ') (h1 : asN W A k ρ → post (nI k) τ') (h0 : ¬ asN W A k ρ → K (nI A) (nI (k + 1)) τ') : (nI A = 0 → qX4_again_B43 post K (nI A) (nI k) τ') ∧ (¬ nI A = 0 → (¬ nI A = 0 ∧ ((¬ (nI k - nI k / nI A * nI A) = 0 → qX4_again_B65 post K (nI A) (nI k) τ') ∧ ((nI k - nI k / nI A * nI A) = 0 → qX4_again_B43 post K (nI A) (nI k) τ')))) := by
  have hW := v.2.1
  have hA := v.2.2.2.1
  have w4 : τ' 1 16 = nI W := by rw [q.1 16 (by decide)]; exact s.w v
  have es : ∀ i, i < W → τ' 1 (168 + i) = o_run k ρ 4 i := fun i hi => (s'.2.2.2.2.2.2.2.1 i hi).2.2.2
  have et : ∀ i, i < W → τ' 1 (12 + i) = ρ 4 i := fun i hi => by
    rw [q.1 _ (by omega)]
    have := (s.2.2.2.2.2.2.2.1 i hi).2.2.2
    rw [Nat.zero_add] at this
    exact this
  have e191 : τ' 1 191 = o_run k ρ 0 1 := s'.2.1
  have e35 : τ' 1 35 = ρ 0 1 := by rw [q.1 35 (by decide)]; exact s.2.1
  have b43 : (0 < A → k % A = 0) → qX4_again_B43 post K (nI A) (nI k) τ' := by
    intro hm
    unfold qX4_again_B43 qX4_again_B65
    rw [tl191, tl35, e191, e35]
    refine ⟨vl191_234, vl35_234, fun r => ?_, fun r => ?_⟩
    · refine ag_flag w4 hW (Or.inl rfl) (fun z => absurd z (by decide)) (fun _ => ?_)
      rw [nI_1]
      exact h0 (fun z => r z.2.1)
    · refine ag_flag w4 hW (Or.inr rfl) (fun _ g => h1 ⟨hm, r, fun i hi => by rw [← es i hi, ← et i hi]; exact g i hi⟩) (fun g => ?_)
      rw [nI_1]
      rcases g with g | ⟨i, hi, g⟩
      · exact absurd g (by decide)
      · rw [es i hi, et i hi] at g
        exact h0 (fun z => g (z.2.2 i hi))
  refine ⟨fun z => b43 (fun hp => absurd z (nIne hp (by omega))), fun z => ⟨z, ?_⟩⟩
  have hp : 0 < A := by
    rcases Nat.eq_zero_or_pos A with y | y
    · rw [y] at z; exact absurd rfl z
    · exact y
  have hl := Nat.mod_lt k hp
  rw [pk_rem (by omega) hp (by omega)]
  refine ⟨fun r => ?_, fun r => b43 (fun _ => ?_)⟩
  · unfold qX4_again_B65
    refine ag_flag w4 hW (Or.inl rfl) (fun z => absurd z (by decide)) (fun _ => ?_)
    rw [nI_1]
    refine h0 (fun g => r ?_)
    rw [g.1 hp]
    rfl
  · exact (nI_eq_iff (b := 0) (by omega) (by decide)).mp r
theorem h_again : fp_again fw_Rel := by
  intro n σ τ hR hn
  have h0 := fr_0 hR
  obtain ⟨W, A, t, v, ht, hW, hA, s, b, w3, w4, x3, x4, h14, h15⟩ := q_get hR
  have mdl : ∀ (k : Nat) (σ' : Mem), k ≤ 200 → Fc 7 σ σ' → (∀ j, 1 ≤ j → j ≤ k → ¬ asN W A j (o_zero (rg 1 σ))) → (k < 200 → asN W A (k + 1) (o_zero (rg 1 σ))) → qX4_again τ (fun r' τ' => (if k = 200 then -4 else nI (k + 1)) = r' ∧ fw_Rel (n + 1) σ' τ') := by
    intro k σ' hk f hj hz
    unfold qX4_again
    rw [tl33, x4]
    refine ⟨vl33_234, ?_⟩
    rintro _ rfl
    refine copy156 hW hA s (fun τ1 s1 g1 => ?_)
    refine it2_inv k (fun i y1 y2 τ' => y1 = nI A ∧ y2 = nI (i + 1) ∧ Sm 156 W A τ' (o_run i (o_zero (rg 1 σ))) (τ 1 37) (τ 1 38) ∧ Fm 156 τ τ') (fun i hi y1 y2 τ' hI K hK => ?_) (fun y1 y2 τ' hI K => ?_) (nI A) 1 τ1 ⟨rfl, rfl, s1, g1⟩
    · obtain ⟨rfl, rfl, s2, g2⟩ := hI
      unfold qX4_again_L18
      refine ⟨fun q => absurd ((nI_lt_iff (a := 200) (by decide) (by omega)).mp q) (by omega), fun _ => ?_⟩
      refine tick156 (by rw [g2.2.1 14 (by decide) (by decide)]; exact h14) (by rw [g2.2.1 15 (by decide) (by decide)]; exact h15) s2 (v.run i (by omega)) (by omega) (fun τ3 s3 g3 => ?_)
      have g4 := g2.tr g3
      exact ag_cmp v (by omega) s s3 (g4.q (by decide)) (fun z => absurd z (hj (i + 1) (by omega) (by omega))) (fun _ => hK _ _ _ ⟨rfl, rfl, s3, g4⟩)
    · obtain ⟨rfl, rfl, s2, g2⟩ := hI
      unfold qX4_again_L18
      by_cases e : k = 200
      · rw [if_pos e, e]
        exact ⟨fun _ => ⟨rfl, fr_Q hR f.q (g2.q (by decide))⟩, fun q => absurd (by decide) q⟩
      · rw [if_neg e]
        refine ⟨fun q => absurd ((nI_lt_iff (a := 200) (by decide) (by omega)).mp q) (by omega), fun _ => ?_⟩
        refine tick156 (by rw [g2.2.1 14 (by decide) (by decide)]; exact h14) (by rw [g2.2.1 15 (by decide) (by decide)]; exact h15) s2 (v.run k (by omega)) (by omega) (fun τ3 s3 g3 => ?_)
        have g4 := g2.tr g3
        exact ag_cmp v (by omega) s s3 (g4.q (by decide)) (fun _ => ⟨rfl, fr_Q hR f.q (g4.q (by decide))⟩) (fun z => absurd (hz (by omega)) z)
  unfold qX3_again
  refine s0_startAs (by decide) (fun σ1 e1 f1 => ?_)
  refine it1_inv 200 (fun i y σ' => y = nI (i + 1) ∧ rg 7 σ' = o_run i (o_zero (rg 1 σ)) ∧ Fc 7 σ σ' ∧ (∀ j, 1 ≤ j → j ≤ i → ¬ asN W A j (o_zero (rg 1 σ)))) (fun i hi y σ' hI K hK => ?_) (fun y σ' hI K => ?_) 1 σ1 ⟨rfl, e1, f1, fun j h1 h2 => by omega⟩
  · obtain ⟨rfl, e2, f2, hj⟩ := hI
    unfold qX3_again_L13 qX3_again_B67
    refine ⟨fun q => absurd ((nI_lt_iff (a := 200) (by decide) (by omega)).mp q) (by omega), fun _ => ?_⟩
    refine s0_passTick (W := W) (A := A) (t := t + i) (by rw [e2]; exact v.run i (by omega)) (fun σ3 e3 f3 => s0_dueNumber (s0_dueNumber ?_))
    have e4 : rg 7 σ3 = o_run (i + 1) (o_zero (rg 1 σ)) := by rw [e3, e2]; rfl
    have f4 := f2.tr f3
    have vz := v.run (i + 1) (by omega)
    have w7 : σ3 7 2 = nI W := by
      have q := vz.1
      rw [← e4] at q
      exact q
    have w1 : σ3 1 2 = nI W := by rw [f4 1 (by decide)]; exact w3
    have en : o_num (rg 1 σ) = o_num (o_zero (rg 1 σ)) := rfl
    rw [e4, f4.q.r1, en, num_same v (by omega), nI_1]
    have nx : ¬ asN W A (i + 1) (o_zero (rg 1 σ)) → K (nI (i + 1 + 1)) σ3 := by
      intro hz
      refine hK _ _ ⟨rfl, e4, f4, fun j h1 h2 => ?_⟩
      by_cases e : j = i + 1
      · subst e; exact hz
      · exact hj j h1 (by omega)
    refine ⟨fun r => ?_, fun r => ?_⟩
    · rintro _ rfl
      exact nx (fun z => r z.1)
    · refine s0_swingsAs w7 w1 hW (fun d1 d2 => z1 ?_) (fun d => z0 ?_)
      · rw [e4, f4.q.r1] at d1 d2
        have M := mdl i σ3 (by omega) f4 hj (fun _ => ⟨r, d1, d2⟩)
        rw [if_neg (by omega)] at M
        exact M
      · rintro _ rfl
        rw [e4, f4.q.r1] at d
        refine nx (fun z => ?_)
        rcases d with d | ⟨j, hj2, d⟩
        · exact d z.2.1
        · exact d (z.2.2 j hj2)
  · obtain ⟨rfl, e2, f2, hj⟩ := hI
    unfold qX3_again_L13
    refine ⟨fun _ => ?_, fun q => absurd (by decide) q⟩
    have M := mdl 200 σ' (by omega) f2 hj (fun q => by omega)
    rw [if_pos rfl] at M
    exact M
