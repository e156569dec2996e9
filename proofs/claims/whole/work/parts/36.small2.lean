/-! PURE, 7: rule, wheel, alter, turn, ticks, images, count -/
theorem effA_4 {x : Nat} (hx : x < 2147483648) : effA (-4) 0 (nI x) = nI x := by
  unfold effA
  by_cases c1 : (100 : Int32) ≤ nI x
  · rw [if_pos c1, if_neg]
    rintro ⟨c2, c3⟩
    have hx2 : 200 ≤ x := (nI_le_iff (a := 200) (by decide) hx).mp c2
    rw [show (200 : Int32) = nI 200 from rfl, pk_sub hx2] at c3
    have z2 := congrArg Int32.toInt c3
    rw [nI_toInt (by omega)] at z2
    have : (-4 : Int32).toInt = -4 := rfl
    omega
  · rw [if_neg c1, if_pos rfl]
theorem iMin_nI {a b : Nat} (ha : a < 2147483648) (hb : b < 2147483648) : iMin (nI a) (nI b) = nI (min a b) := by
  unfold iMin
  by_cases c : b < a
  · rw [if_pos ((nI_lt_iff hb ha).mpr c), Nat.min_eq_right (by omega)]
  · rw [if_neg (fun z => c ((nI_lt_iff hb ha).mp z)), Nat.min_eq_left (by omega)]
theorem iMax_nI {a b : Nat} (ha : a < 2147483648) (hb : b < 2147483648) : iMax (nI a) (nI b) = nI (max a b) := by
  unfold iMax
  by_cases c : a < b
  · rw [if_pos ((nI_lt_iff ha hb).mpr c), Nat.max_eq_right (by omega)]
  · rw [if_neg (fun z => c ((nI_lt_iff ha hb).mp z)), Nat.max_eq_left (by omega)]
theorem half_nI {e f : Nat} (he : e < 1000000000) (hf : f < 1000000000) : ∃ j, nI f + (nI e - nI f) / 2 = nI j ∧ j ≤ max e f := by
  by_cases c : f ≤ e
  · rw [pk_sub c, show (2 : Int32) = nI 2 from rfl, pk_div (by omega) (by decide) (by decide), nI_add]
    exact ⟨_, rfl, by omega⟩
  · refine ⟨f - (f - e) / 2, ?_, by omega⟩
    have h1 : (nI e - nI f).toInt = (e : Int) - f := pk_sub_toInt (by omega) (by omega)
    have h2 : ((nI e - nI f) / 2).toInt = -(((f - e) / 2 : Nat) : Int) := by
      rw [Int32.toInt_div, h1, show (2 : Int32).toInt = 2 from rfl]
      have : ((e : Int) - f).tdiv 2 = -(((f - e) / 2 : Nat) : Int) := by
        rw [show ((e : Int) - f) = -((f - e : Nat) : Int) by omega, Int.neg_tdiv, Int.tdiv_eq_ediv_of_nonneg (by omega)]
        omega
      rw [this]
      rw [Int.bmod_eq_of_le (by omega) (by omega)]
    rw [i32_eq, Int32.toInt_add, h2, nI_toInt (by omega), nI_toInt (by omega), Int.bmod_eq_of_le (by omega) (by omega)]
    omega
theorem sumF_mem (f : Nat → Nat) {w : Nat} : ∀ k, w < k → f w ≤ sumF f k
  | 0, h => by omega
  | k + 1, h => by
    rw [sumF]
    by_cases e : w = k
    · subst e; omega
    · have := sumF_mem f (w := w) k (by omega); omega
theorem even_nI {W A t w s : Nat} {f : Nat} {ρ : Mem} (v : Vd W A t ρ) (hw : w < W) (h1 : ρ 0 1 = nI s) (h2 : ρ 4 w = nI f) (hb : s + f ≤ 6000000) : ∃ e, o_even w ρ = nI e ∧ e ≤ s + f := by
  obtain ⟨-, -, -, -, -, -, ⟨q, eq, q1, q2⟩, v8, -⟩ := v
  obtain ⟨-, ⟨m, em, m1, m2⟩, -⟩ := v8 w hw
  unfold o_even quo
  rw [h1, h2, eq, em, nI_add, nI_add, pk_mul, if_neg (nIpos (by omega) (by omega))]
  have hm : (f + s) * m ≤ (f + s) * 20 := Nat.mul_le_mul_left _ m2
  rw [pk_div (by omega) (by omega) (by omega)]
  refine ⟨_, rfl, ?_⟩
  refine Nat.div_le_of_le_mul ?_
  rw [Nat.mul_comm]
  calc m * (f + s) ≤ (m + q) * (f + s) := Nat.mul_le_mul_right _ (by omega)
    _ = (m + q) * (s + f) := by rw [Nat.add_comm f s]
theorem joined_nI {W A t w s : Nat} {f : Nat} {ρ : Mem} (v : Vd W A t ρ) (hw : w < W) (h1 : ρ 0 1 = nI s) (h2 : ρ 4 w = nI f) (hb : s + f ≤ 6000000) : ∃ j, o_joined w ρ = nI j ∧ j ≤ s + f := by
  obtain ⟨e, ee, he⟩ := even_nI v hw h1 h2 hb
  unfold o_joined
  rw [ee, h2]
  by_cases c0 : ρ 1 w = 0
  · rw [if_pos c0]; exact ⟨e, rfl, he⟩
  · rw [if_neg c0]
    by_cases c1 : ρ 1 w = 1
    · rw [if_pos c1]
      obtain ⟨j, e1, e2⟩ := half_nI (e := e) (f := f) (by omega) (by omega)
      exact ⟨j, e1, by omega⟩
    · rw [if_neg c1, iMax_nI (by omega) (by omega)]
      by_cases c2 : ρ 1 w = 2
      · rw [if_pos c2]; exact ⟨_, rfl, by omega⟩
      · rw [if_neg c2, show (20 : Int32) = nI 20 from rfl, nI_add, iMin_nI (by omega) (by omega)]
        exact ⟨_, rfl, by omega⟩
theorem Bd.join {W A t w S : Nat} {ρ : Mem} (b : Bd W S ρ) (v : Vd W A t ρ) (hw : w < W) (hS : S ≤ 6000000) : Bd W S (o_join w ρ) := by
  obtain ⟨s, f, h1, h2, h3⟩ := b
  have hf := sumF_mem f W hw
  obtain ⟨j, ej, hj⟩ := joined_nI v hw h1 (h2 w hw) (by omega)
  unfold o_join
  rw [ej, h1, h2 w hw, nI_add, pk_sub (by omega)]
  refine ⟨s + f w - j, fun i => if i = w then j else f i, rd_eq _ _ _ _, fun i hi => ?_, ?_⟩
  · show up2 (up2 ρ 4 w (nI j)) 0 1 (nI (s + f w - j)) 4 i = nI (if i = w then j else f i)
    rw [rd_cj (by decide)]
    by_cases e : i = w
    · subst e; rw [rd_eq, if_pos rfl]
    · rw [rd_ne e, if_neg e]; exact h2 i hi
  · have := sumF_set f w j W
    rw [if_pos hw, if_pos hw] at this
    omega
theorem Bd.load {W S w : Nat} {ρ : Mem} (b : Bd W S ρ) (hw : w < 2147483648) (hS : S ≤ 6000000) : Bd W S (o_load (nI w) ρ) := by
  obtain ⟨s, f, h1, h2, h3⟩ := b
  unfold o_load
  rw [h1, iMin_nI (by omega) (by omega), pk_sub (by omega)]
  refine ⟨s - min w s, f, ?_, h2, by omega⟩
  rw [rd_ne (by decide), rd_ne (by decide), rd_eq]
theorem Bd.drive {W S w : Nat} {ρ : Mem} (b : Bd W S ρ) : Bd W (S + w) (o_drive (nI w) ρ) := by
  obtain ⟨s, f, h1, h2, h3⟩ := b
  unfold o_drive
  rw [h1, nI_add]
  exact ⟨s + w, f, rd_eq _ _ _ _, h2, by omega⟩
theorem Bd.perform {W A t x S : Nat} {ρ : Mem} (b : Bd W S ρ) (v : Vd W A t ρ) (hx : x ≤ 203) (hS : S ≤ 6000000) : Bd W (S + 99) (o_perform (nI x) ρ) := by
  unfold o_perform
  have i1 : (100 : Int32) ≤ nI x ↔ 100 ≤ x := nI_le_iff (a := 100) (by decide) (by omega)
  have i2 : (200 : Int32) ≤ nI x ↔ 200 ≤ x := nI_le_iff (a := 200) (by decide) (by omega)
  by_cases c1 : 100 ≤ x
  · rw [if_pos (i1.mpr c1)]
    by_cases c2 : 200 ≤ x
    · rw [if_pos (i2.mpr c2), show (200 : Int32) = nI 200 from rfl, pk_sub c2]
      have := v.2.1
      by_cases c3 : nI (x - 200) < 0 ∨ ρ 0 2 ≤ nI (x - 200)
      · rw [if_pos c3]; exact b.mono (by omega)
      · rw [if_neg c3, tn_nI (by omega)]
        have c4 : ¬ ρ 0 2 ≤ nI (x - 200) := fun z => c3 (Or.inr z)
        rw [v.1, nI_le_iff (by omega) (by omega)] at c4
        exact (b.join v (by omega) hS).mono (by omega)
    · rw [if_neg (fun z => c2 (i2.mp z)), show (100 : Int32) = nI 100 from rfl, pk_sub c1]; exact (b.load (by omega) hS).mono (by omega)
  · rw [if_neg (fun z => c1 (i1.mp z))]; exact b.drive.mono (by omega)
theorem Bd.los {W S k : Nat} {ρ : Mem} (b : Bd W S ρ) (hk : k < W) {m : Nat} (hm : ρ 3 k = nI m) (h9 : m ≤ 9) (hS : S ≤ 7000000) : Bd W S (o_los k ρ) := by
  obtain ⟨s, f, h1, h2, h3⟩ := b
  have hf := sumF_mem f W hk
  unfold o_los
  rw [h2 k hk, hm, iMin_nI (by omega) (by omega), pk_sub (by omega)]
  refine ⟨s, fun i => if i = k then f k - min m (f k) else f i, ?_, fun i hi => ?_, ?_⟩
  · rw [rd_ne (by decide), rd_cj (by decide)]; exact h1
  · show up2 (up2 ρ 4 k (nI (f k - min m (f k)))) 0 12 _ 4 i = nI (if i = k then f k - min m (f k) else f i)
    rw [rd_cj (by decide)]
    by_cases e : i = k
    · subst e; rw [rd_eq, if_pos rfl]
    · rw [rd_ne e, if_neg e]; exact h2 i hi
  · have := sumF_set f k (f k - min m (f k)) W
    rw [if_pos hk, if_pos hk] at this
    omega
theorem Bd.loss {W A t S : Nat} {ρ : Mem} (b : Bd W S ρ) (v : Vd W A t ρ) (hS : S ≤ 7000000) : ∀ k, k ≤ W → Bd W S (o_loss k ρ)
  | 0, _ => b
  | k + 1, hk => by
    have v' := v.st (St.loss k ρ)
    obtain ⟨-, -, m, em, hm⟩ := v'.2.2.2.2.2.2.2.1 k (by omega)
    exact (Bd.loss b v hS k (by omega)).los (by omega) em hm hS
theorem Bd.tickW {W A t x S : Nat} {ρ : Mem} (b : Bd W S ρ) (v : Vd W A t ρ) (hx : x ≤ 203) (hS : S ≤ 6000000) : Bd W (S + 99) (o_tickW (nI x) ρ) := by
  unfold o_tickW
  have hW := v.2.1
  rw [v.1, tn_nI (by omega)]
  have := (b.perform v hx hS).loss (v.st (St.perform _ ρ)) (by omega) W (Nat.le_refl W)
  exact this.fr rfl rfl
theorem due_nI {W A t : Nat} {ρ : Mem} (v : Vd W A t ρ) : ∃ x, o_due ρ = nI x ∧ x ≤ 203 := by
  obtain ⟨-, -, v3, v4, v5, v6, -, -, v9⟩ := v
  unfold o_due
  by_cases c : ρ 0 7 ≤ 0
  · rw [if_pos c]; exact ⟨0, rfl, by decide⟩
  · rw [if_neg c]
    have hA : 0 < A := by
      rcases Nat.eq_zero_or_pos A with z | z
      · rw [v3, z] at c; exact absurd (Int32.le_refl 0) c
      · exact z
    have hl := Nat.mod_lt t hA
    rw [v3, v5, remI_nI (by omega) hA (by omega), tn_nI (by omega)]
    exact v9 _ hl
theorem Bd.tick {W A t S : Nat} {ρ : Mem} (b : Bd W S ρ) (v : Vd W A t ρ) (hS : S ≤ 6000000) : Bd W (S + 99) (o_tick ρ) := by
  unfold o_tick
  obtain ⟨x, ex, hx⟩ := due_nI v
  rw [ex]
  exact b.tickW v hx hS
theorem Bd.run {W A t S : Nat} {ρ : Mem} (b : Bd W S ρ) (v : Vd W A t ρ) : ∀ k, t + k < 20000 → S + 99 * k ≤ 6000000 → Bd W (S + 99 * k) (o_run k ρ)
  | 0, _, _ => b
  | k + 1, h1, h2 => by
    have := (Bd.run b v k (by omega) (by omega)).tick (v.run k (by omega)) (by omega)
    rw [show S + 99 * (k + 1) = S + 99 * k + 99 by omega]
    exact this
theorem h_turn : fp_turn fw_Rel := by
  intro n σ τ a1 hR hn
  obtain ⟨W, A, t, v, ht, s, b⟩ := hR.1.get
  have hw := s.w v
  have hw3 : σ 1 2 = nI W := v.1
  have hW := v.2.1
  have h14 := hR.2.2.2.2.2.2.1
  have hW4 : σ 1 2 ≤ 4 := by rw [hw3]; exact (nI_le_iff (by omega) (by decide)).mpr hW
  unfold qX3_turn
  refine s3_within (fun c1 c2 => y1 ?_) (fun c => y0 ?_)
  · obtain ⟨x, -, hx, rfl⟩ := rng_of 0 203 c1 c2 (by decide) (by decide)
    refine ⟨fun c3 => ?_, fun c3 => ?_⟩
    · unfold qX3_turn_B38
      refine s0_perform hW4 (fun σ' e f => ?_)
      unfold qX4_turn
      refine in_t (lo := 0) (hi := 203) rfl rfl c1 c2 (y1 ⟨fun _ => ?_, fun z => absurd c3 z⟩)
      unfold qX4_turn_B36
      refine s4_actOn (p := 0) (by decide) s v hx (fun τ' s' f' _ _ => ⟨vl35_234, ?_, ?_⟩)
      · rw [tl35]
        rw [h14, effA_4 (by omega)] at s'
        have q1 := s'.2.1
        rw [← e] at q1
        exact q1.symm
      · rw [h14, effA_4 (by omega)] at s'
        exact fr_c hR f f' ⟨W, A, t, by rw [e]; exact v.st (St.perform _ _), ht, by rw [e]; exact s', by rw [e]; exact (b.perform v hx (by omega)).mono (by omega)⟩
    · refine s0_hasWheel (fun c4 c5 => y1 ?_) (fun c => y0 ?_)
      · rw [hw3] at c5
        unfold qX3_turn_B38
        refine s0_perform hW4 (fun σ' e f => ?_)
        unfold qX4_turn
        refine in_t (lo := 0) (hi := 203) rfl rfl c1 c2 (y1 ⟨fun z => absurd z c3, fun _ => isWheel_t hw hW c4 c5 (y1 ?_)⟩)
        unfold qX4_turn_B36
        refine s4_actOn (p := 0) (by decide) s v hx (fun τ' s' f' _ _ => ⟨vl35_234, ?_, ?_⟩)
        · rw [tl35]
          rw [h14, effA_4 (by omega)] at s'
          have q1 := s'.2.1
          rw [← e] at q1
          exact q1.symm
        · rw [h14, effA_4 (by omega)] at s'
          exact fr_c hR f f' ⟨W, A, t, by rw [e]; exact v.st (St.perform _ _), ht, by rw [e]; exact s', by rw [e]; exact (b.perform v hx (by omega)).mono (by omega)⟩
      · rw [hw3] at c
        unfold qX4_turn
        exact in_t (lo := 0) (hi := 203) rfl rfl c1 c2 (y1 ⟨fun z => absurd z c3, fun _ => isWheel_f hw hW c (y0 ⟨rfl, fr_0 hR⟩)⟩)
  · unfold qX4_turn
    exact in_f (lo := 0) (hi := 203) rfl rfl c (y0 ⟨rfl, fr_0 hR⟩)
theorem h_ticks : fp_ticks fw_Rel := by
  intro n σ τ a1 hR hn
  obtain ⟨W, A, t, v, ht, s, b⟩ := hR.1.get
  have h14 := hR.2.2.2.2.2.2.1
  have h15 := hR.2.2.2.2.2.2.2.1
  have ht3 : σ 1 9 = nI t := v.2.2.2.2.1
  have ht4 : τ 1 36 = nI t := by
    have := s.2.2.2.2.1
    rw [v.2.2.2.2.1] at this
    exact this
  have hd : τ 1 37 = σ 1 10 := by
    have := s.2.2.2.2.2.1
    rw [Int32.add_zero] at this
    exact this
  unfold qX3_ticks
  refine s3_within (fun c1 c2 => y1 ?_) (fun c => y0 ?_)
  · have c1' := c1
    have c2' := c2
    obtain ⟨x, -, hx, rfl⟩ := rng_of 0 100 c1 c2 (by decide) (by decide)
    rw [ht3, nI_add, show (10000 : Int32) = nI 10000 from rfl, nI_lt_iff (by omega) (by omega)]
    refine ⟨fun c3 => ?_, fun c3 => ?_⟩
    · rintro _ rfl
      refine s0_runTicks v (by omega) (fun σ' e f => ?_)
      unfold qX4_ticks
      refine in_t (lo := 0) (hi := 100) rfl rfl c1' c2' (y1 ?_)
      rw [tl36, tl37, ht4, nI_add, show (9999 : Int32) = nI 9999 from rfl, nI_le_iff (by omega) (by omega)]
      refine ⟨vl36_234, fun _ => ⟨vl37_234, ?_⟩, fun z => absurd (by omega) z⟩
      rintro _ rfl
      refine it2_inv x (fun k y z τ' => y = τ 1 37 ∧ z = nI k ∧ Sm 0 W A τ' (o_run k (rg 1 σ)) 0 0 ∧ Fm 0 τ τ') (fun k hk y z τ' hI K hK => ?_) (fun y z τ' hI K => ?_) _ 0 τ ⟨rfl, nI_0.symm, s, Fm.rf⟩
      · obtain ⟨rfl, rfl, s', f'⟩ := hI
        unfold qX4_ticks_L42
        refine ⟨fun z => absurd ((nI_le_iff (by omega) (by omega)).mp z) (by omega), fun _ => ?_⟩
        have vk := v.run k (by omega)
        refine s4_tickOn (p := 0) (by decide) s' vk (by omega) (fun τ2 s2 f2 _ _ => ?_)
        rw [f'.2.1 14 (by decide) (by decide), f'.2.1 15 (by decide) (by decide), h14, h15, effT_due vk] at s2
        rintro _ rfl
        exact hK _ _ _ ⟨rfl, nI_1 k, s2, f'.tr f2⟩
      · obtain ⟨rfl, rfl, s', f'⟩ := hI
        unfold qX4_ticks_L42
        refine ⟨fun _ => ⟨vl37_234, ?_, ?_⟩, fun z => absurd (Int32.le_refl _) z⟩
        · rw [tl37, hd]
          have q1 := s'.2.2.2.2.2.1
          rw [← e, Int32.add_zero] at q1
          have q2 : τ' 1 37 = σ' 1 10 := q1
          rw [q2]
        · exact fr_c hR f f' ⟨W, A, t + x, by rw [e]; exact v.run x (by omega), c3, by rw [e]; exact s', by rw [e]; exact (b.run v x (by omega) (by omega)).mono (by omega)⟩
    · unfold qX4_ticks
      refine in_t (lo := 0) (hi := 100) rfl rfl c1' c2' (y1 ?_)
      rw [tl36, ht4, nI_add, show (9999 : Int32) = nI 9999 from rfl, nI_le_iff (by omega) (by omega)]
      exact ⟨vl36_234, fun z => absurd z (by omega), fun _ => ⟨rfl, fr_0 hR⟩⟩
  · unfold qX4_ticks
    exact in_f (lo := 0) (hi := 100) rfl rfl c (y0 ⟨rfl, fr_0 hR⟩)
