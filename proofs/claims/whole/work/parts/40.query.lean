/-! PURE, 11: questions: runs, ahead, when -/
def Qc (σ σ' : Mem) : Prop := ∀ c, (c < 7 ∨ 13 ≤ c) → c ≠ 47 → σ' c = σ c
def Qm (τ τ' : Mem) : Prop := (∀ k, k < 117 → τ' 1 k = τ 1 k) ∧ (∀ c, c ≠ 0 → c ≠ 1 → c ≠ 7 → τ' c = τ c) ∧ (∀ k, k ≠ 16 → k ≠ 17 → τ' 0 k = τ 0 k)
theorem Qc.rf {σ : Mem} : Qc σ σ := fun _ _ _ => rfl
theorem Qc.tr {a b c : Mem} (h : Qc a b) (g : Qc b c) : Qc a c := fun k h1 h2 => (g k h1 h2).trans (h k h1 h2)
theorem Fc.q {σ σ' : Mem} (h : Fc 7 σ σ') : Qc σ σ' := fun c h1 _ => h c (by omega)
theorem Qc.r1 {σ σ' : Mem} (h : Qc σ σ') : rg 1 σ' = rg 1 σ := rg_ext (fun j i hj => by have := rgk_lt hj; rw [h _ (by omega) (by omega)])
theorem Qm.rf {τ : Mem} : Qm τ τ := ⟨fun _ _ => rfl, fun _ _ _ _ => rfl, fun _ _ _ => rfl⟩
theorem Qm.tr {a b c : Mem} (h : Qm a b) (g : Qm b c) : Qm a c := ⟨fun k hk => (g.1 k hk).trans (h.1 k hk), fun k h0 h1 h2 => (g.2.1 k h0 h1 h2).trans (h.2.1 k h0 h1 h2), fun k h0 h1 => (g.2.2 k h0 h1).trans (h.2.2 k h0 h1)⟩
theorem Fm.q {p : Nat} {τ τ' : Mem} (h : Fm p τ τ') (hp : 117 ≤ p) : Qm τ τ' := ⟨fun k hk => h.2.2 k (by omega), fun c h0 h1 _ => h.1 c h0 h1, h.2.1⟩
theorem fr_Q {n : Nat} {σ τ σ' τ' : Mem} (h : fw_Rel n σ τ) (qc : Qc σ σ') (qm : Qm τ τ') : fw_Rel (n + 1) σ' τ' :=
  fr_q h (fun c h1 _ h3 => qc c (by omega) h3) (by rw [qc 33 (by omega) (by decide)]) (fun k hk => qm.1 k hk) (fun c h0 h1 _ h7 => qm.2.1 c h0 h1 h7) (fun k hk => qm.2.2 k (by omega) (by omega))
theorem Sm.zero {p W A : Nat} {τ ρ : Mem} (s : Sm p W A τ ρ 0 0) : Sm p W A τ (o_zero ρ) (τ 1 (p + 37)) (τ 1 (p + 38)) := by
  obtain ⟨s1, s2, s3, s4, s5, s6, s7, s8, s9⟩ := s
  have e : ∀ k, k ≠ 10 → k ≠ 11 → k ≠ 12 → o_zero ρ 0 k = ρ 0 k := fun k h1 h2 h3 => by rw [o_zero, rd_ne h3, rd_ne h2, rd_ne h1]
  refine ⟨?_, ?_, ?_, ?_, ?_, ?_, ?_, s8, s9⟩
  · rw [e 0 (by decide) (by decide) (by decide)]; exact s1
  · rw [e 1 (by decide) (by decide) (by decide)]; exact s2
  · rw [e 2 (by decide) (by decide) (by decide)]; exact s3
  · rw [e 7 (by decide) (by decide) (by decide)]; exact s4
  · rw [e 9 (by decide) (by decide) (by decide)]; exact s5
  · have : o_zero ρ 0 10 = 0 := by rw [o_zero, rd_ne (by decide), rd_ne (by decide), rd_eq]
    rw [this, Int32.zero_add]
  · have : o_zero ρ 0 11 = 0 := by rw [o_zero, rd_ne (by decide), rd_eq]
    rw [this, Int32.zero_add]
theorem zero12 (ρ : Mem) : o_zero ρ 0 12 = 0 := rd_eq _ _ _ _
/-- what every question starts from -/
theorem q_get {n : Nat} {σ τ : Mem} (hR : fw_Rel n σ τ) : ∃ W A t, Vd W A t (o_zero (rg 1 σ)) ∧ t < 10000 ∧ W ≤ 4 ∧ A ≤ 16 ∧ Sm 0 W A τ (o_zero (rg 1 σ)) (τ 1 37) (τ 1 38) ∧ Bd W (10000 * n) (o_zero (rg 1 σ)) ∧ σ 1 2 = nI W ∧ τ 1 16 = nI W ∧ σ 1 7 = nI A ∧ τ 1 33 = nI A ∧ τ 0 14 = -4 ∧ τ 0 15 = -4 := by
  obtain ⟨W, A, t, v, ht, s, b⟩ := hR.1.get
  exact ⟨W, A, t, v.st (St.zero _), ht, v.2.1, v.2.2.2.1, s.zero, b.fr rfl rfl, v.1, s.w v, v.2.2.1, s.a v, hR.2.2.2.2.2.2.1, hR.2.2.2.2.2.2.2.1⟩
theorem go0 {W A t x p : Nat} {τ ρ : Mem} {post : Int32 → Mem → Prop} (hp : p = 0 ∨ p = 195) (v : Vd W A t ρ) (ht : t < 10000) (s : Sm p W A τ ρ (τ 1 37) (τ 1 38)) (h14 : τ 0 14 = -4) (h15 : τ 0 15 = -4) (z : ρ 0 12 = 0) (hx : x ≤ 200) (h : ∀ τ', Sm 156 W A τ' (o_run x ρ) (τ 1 37) (τ 1 38) → Fm 156 τ τ' → τ' 0 16 = o_run x ρ 0 12 → τ' 0 17 = fastE (-4) (-4) ρ x → post (o_run x ρ 0 10) τ') : qX4_ticksGo (nI p) (nI x) τ post := by
  have e := runE_run v x (by omega)
  refine s4_ticksGo hp s v (by omega) (fun τ' s' f k1 k2 => ?_)
  rw [h14, h15] at s' k1 k2 ⊢
  rw [e] at s' k1 ⊢
  exact h τ' s' f (k1 z) k2
theorem h_ahead : fp_ahead fw_Rel := by
  intro n σ τ a1 a2 hR hn
  have h0 := fr_0 hR
  obtain ⟨W, A, t, v, ht, hW, hA, s, b, w3, w4, -, -, h14, h15⟩ := q_get hR
  unfold qX3_ahead qX3_ahead_B22
  refine s0_hasWheel (fun c1 c2 => z1 ?_) (fun c => z0 ?_)
  · rw [w3] at c2
    have c1' := c1
    have c2' := c2
    obtain ⟨w, hw, rfl⟩ := idx_of c1 c2 (by omega)
    refine s3_within (fun c3 c4 => y1 ?_) (fun c => y0 ?_)
    · have c3' := c3
      have c4' := c4
      obtain ⟨x, -, hx, rfl⟩ := rng_of 0 200 c3 c4 (by decide) (by decide)
      refine s0_startAs (by decide) (fun σ1 e1 f1 => ?_)
      refine s0_runTicks (W := W) (A := A) (t := t) (by rw [e1]; exact v) (by omega) (fun σ2 e2 f2 => ?_)
      rw [tn_nI (by omega)]
      refine ⟨in_nI (by omega) (by decide), ?_⟩
      unfold qX4_ahead
      refine isWheel_t w4 hW c1' c2' (z1 (isLong_t c3' c4' (y1 (go0 (p := 0) (Or.inl rfl) v ht s h14 h15 (zero12 _) hx (fun τ' s' f' _ _ => ?_)))))
      rw [jx168, tn_nI (by omega)]
      refine ⟨in_nI (by omega) (by decide), ?_, fr_Q hR (f1.tr f2).q (f'.q (by decide))⟩
      rw [(s'.2.2.2.2.2.2.2.1 w hw).2.2.2, ← e1, ← e2, rg_a 4 (by decide) (by decide) (by omega)]
    · unfold qX4_ahead qX4_ahead_B15
      exact isWheel_t w4 hW c1' c2' (z1 (isLong_f c (y0 ⟨rfl, h0⟩)))
  · rw [w3] at c
    unfold qX4_ahead qX4_ahead_B15
    exact isWheel_f w4 hW c (z0 ⟨rfl, h0⟩)
theorem run_00 {W A t : Nat} {ρ : Mem} (v : Vd W A t ρ) (k : Nat) (hk : t + k < 20000) : o_run k ρ 0 0 = ρ 0 0 := by
  rw [← runE_run v k hk]
  exact runE_00 _ _ _ _
theorem h_runs : fp_runs fw_Rel := by
  intro n σ τ a1 a2 hR hn
  have h0 := fr_0 hR
  obtain ⟨W, A, t, v, ht, hW, hA, s, b, w3, w4, -, -, h14, h15⟩ := q_get hR
  unfold qX3_runs qX3_runs_B20
  refine s3_within (fun c1 c2 => z1 ?_) (fun c => z0 ?_)
  · refine s3_within (fun c3 c4 => y1 ?_) (fun c => y0 ?_)
    · have c1' := c1
      have c2' := c2
      obtain ⟨x, -, hx, rfl⟩ := rng_of 0 200 c1 c2 (by decide) (by decide)
      refine s0_startAs (by decide) (fun σ1 e1 f1 => s0_shaftSpeed ?_)
      refine it2_inv x (fun k y z σ' => y = fastE (-4) (-4) (o_zero (rg 1 σ)) k ∧ z = nI k ∧ rg 7 σ' = o_run k (o_zero (rg 1 σ)) ∧ Fc 7 σ σ') (fun k hk y z σ' hI K hK => ?_) (fun y z σ' hI K => ?_) _ 0 σ1 ⟨by rw [e1]; rfl, nI_0.symm, e1, f1⟩
      · obtain ⟨rfl, rfl, e2, f2⟩ := hI
        unfold qX3_runs_L44
        refine ⟨fun q => absurd ((nI_le_iff (by omega) (by omega)).mp q) (by omega), fun _ => ?_⟩
        refine s0_passTick (W := W) (A := A) (t := t + k) (by rw [e2]; exact v.run k (by omega)) (fun σ3 e3 f3 => s0_shaftSpeed ?_)
        rintro _ rfl _ rfl
        have e4 : rg 7 σ3 = o_run (k + 1) (o_zero (rg 1 σ)) := by rw [e3, e2]; rfl
        refine hK _ _ _ ⟨?_, nI_1 k, e4, f2.tr f3⟩
        rw [fastE, iMax, e4, run_00 v (k + 1) (by omega), runE_run v (k + 1) (by omega)]
      · obtain ⟨rfl, rfl, e2, f2⟩ := hI
        unfold qX3_runs_L44
        refine ⟨fun _ => ?_, fun q => absurd (Int32.le_refl _) q⟩
        have hw7 : σ' 7 2 = nI W := by
          have q := (v.run x (by omega)).1
          rw [← e2] at q
          exact q
        have go : ∀ r : Int32, (∀ τ', Sm 156 W A τ' (o_run x (o_zero (rg 1 σ))) (τ 1 37) (τ 1 38) → Fm 156 τ τ' → τ' 0 16 = o_run x (o_zero (rg 1 σ)) 0 12 → τ' 0 17 = fastE (-4) (-4) (o_zero (rg 1 σ)) x → ((a2 = 0 → r = o_run x (o_zero (rg 1 σ)) 0 10) ∧ (¬ a2 = 0 → ((a2 = 1 → r = o_run x (o_zero (rg 1 σ)) 0 11) ∧ (¬ a2 = 1 → ((a2 = 2 → r = τ' 0 16) ∧ (¬ a2 = 2 → ((a2 = 3 → r = o_run x (o_zero (rg 1 σ)) 0 1 + sumN (o_run x (o_zero (rg 1 σ)) 4) W) ∧ (¬ a2 = 3 → r = τ' 0 17))))))))) → qX4_runs (nI x) a2 τ (fun r' τ' => r = r' ∧ fw_Rel (n + 1) σ' τ') := by
          intro r hr
          unfold qX4_runs
          refine isLong_t c1' c2' (z1 (in_t (lo := 0) (hi := 4) rfl rfl c3 c4 (y1 (go0 (p := 0) (Or.inl rfl) v ht s h14 h15 (zero12 _) hx (fun τ' s' f' k16 k17 => ?_)))))
          have g := hr τ' s' f' k16 k17
          have R := fr_Q hR f2.q (f'.q (by decide))
          have e38 : τ' 1 38 = τ 1 38 := f'.2.2 38 (by decide)
          exact ⟨fun d => ⟨g.1 d, R⟩, fun d0 => ⟨fun d => s4_lackThen (τ := τ) s' e38 ⟨(g.2 d0).1 d, R⟩, fun d1 => ⟨fun d => ⟨((g.2 d0).2 d1).1 d, R⟩, fun d2 => ⟨fun d => s4_swingOn (p := 156) (by decide) s' (v.run x (by omega)) ⟨(((g.2 d0).2 d1).2 d2).1 d, R⟩, fun d3 => ⟨(((g.2 d0).2 d1).2 d2).2 d3, R⟩⟩⟩⟩⟩
        refine ⟨fun d => go _ (fun τ' _ _ _ _ => cs_t d ?_), fun d0 => ⟨fun d => go _ (fun τ' _ _ _ _ => cs_f d0 (cs_t d ?_)), fun d1 => ⟨fun d => go _ (fun τ' _ _ k16 _ => cs_f d0 (cs_f d1 (cs_t d ?_))), fun d2 => ⟨fun d => s0_allSwing hw7 hW (go _ (fun τ' _ _ _ _ => cs_f d0 (cs_f d1 (cs_f d2 (cs_t d ?_))))), fun d3 => go _ (fun τ' _ _ _ k17 => cs_f d0 (cs_f d1 (cs_f d2 (cs_f d3 k17.symm))))⟩⟩⟩⟩
        · rw [← e2]; rfl
        · rw [← e2]; rfl
        · rw [k16, ← e2]; rfl
        · rw [← e2]
    · unfold qX4_runs qX4_runs_B19
      exact isLong_t c1 c2 (z1 (in_f (lo := 0) (hi := 4) rfl rfl c (y0 ⟨rfl, h0⟩)))
  · unfold qX4_runs qX4_runs_B19
    exact isLong_f c (z0 ⟨rfl, h0⟩)
/-- one tick of page 156, as it is -/
theorem tick156 {W A t : Nat} {τ ρ : Mem} {d l : Int32} {post : Mem → Prop} (h14 : τ 0 14 = -4) (h15 : τ 0 15 = -4) (s : Sm 156 W A τ ρ d l) (v : Vd W A t ρ) (ht : t + 1 < 20000) (h : ∀ τ', Sm 156 W A τ' (o_tick ρ) d l → Fm 156 τ τ' → post τ') : qX4_tickOn 156 0 τ post := by
  refine s4_tickOn (p := 156) (by decide) s v ht (fun τ' s' f _ _ => ?_)
  rw [h14, h15, effT_due v] at s'
  exact h τ' s' f
theorem copy156 {W A : Nat} {τ ρ : Mem} {d l : Int32} {post : Mem → Prop} (hW : W ≤ 4) (hA : A ≤ 16) (s : Sm 0 W A τ ρ d l) (h : ∀ τ', Sm 156 W A τ' ρ d l → Fm 156 τ τ' → post τ') : qX4_copies 0 156 τ post :=
  s4_copies (p := 0) (q := 156) (by decide) (by decide) (by decide) (fun τ' e1 e2 e3 => h τ' (s.copy hW hA e1) ⟨fun c _ h1 => e3 c h1, fun k _ _ => by rw [e3 0 (by decide)], fun k hk => e2 k hk⟩)
theorem h_when : fp_when fw_Rel := by
  intro n σ τ a1 hR hn
  have h0 := fr_0 hR
  obtain ⟨W, A, t, v, ht, hW, hA, s, b, w3, w4, -, -, h14, h15⟩ := q_get hR
  unfold qX3_when
  refine s0_hasWheel (fun c1 c2 => y1 ?_) (fun c => y0 ?_)
  · rw [w3] at c2
    have c1' := c1
    have c2' := c2
    obtain ⟨w, hw, rfl⟩ := idx_of c1 c2 (by omega)
    refine s0_startAs (by decide) (fun σ1 e1 f1 => ?_)
    have mdl : ∀ (k : Nat) (σ' : Mem), k ≤ 201 → Fc 7 σ σ' → (∀ j, j < k → ¬ o_run j (o_zero (rg 1 σ)) 4 w = 0) → (k ≤ 200 → o_run k (o_zero (rg 1 σ)) 4 w = 0) → qX4_when (nI w) τ (fun r' τ' => (if k = 201 then -4 else nI k) = r' ∧ fw_Rel (n + 1) σ' τ') := by
      intro k σ' hk f hj hz
      unfold qX4_when
      refine isWheel_t w4 hW c1' c2' (y1 (copy156 hW hA s (fun τ1 s1 g1 => ?_)))
      refine it1_inv k (fun i y τ' => y = nI i ∧ Sm 156 W A τ' (o_run i (o_zero (rg 1 σ))) (τ 1 37) (τ 1 38) ∧ Fm 156 τ τ') (fun i hi y τ' hI K hK => ?_) (fun y τ' hI K => ?_) 0 τ1 ⟨nI_0.symm, s1, g1⟩
      · obtain ⟨rfl, s2, g2⟩ := hI
        unfold qX4_when_L20
        rw [jx168, tn_nI (by omega), (s2.2.2.2.2.2.2.2.1 w hw).2.2.2]
        refine ⟨fun q => absurd ((nI_lt_iff (a := 200) (by decide) (by omega)).mp q) (by omega), fun _ => ⟨in_nI (by omega) (by decide), fun _ => ?_, fun q => absurd q (hj i hi)⟩⟩
        refine tick156 (by rw [g2.2.1 14 (by decide) (by decide)]; exact h14) (by rw [g2.2.1 15 (by decide) (by decide)]; exact h15) s2 (v.run i (by omega)) (by omega) (fun τ3 s3 g3 => ?_)
        rintro _ rfl
        exact hK _ _ ⟨nI_1 i, s3, g2.tr g3⟩
      · obtain ⟨rfl, s2, g2⟩ := hI
        unfold qX4_when_L20
        rw [jx168, tn_nI (by omega), (s2.2.2.2.2.2.2.2.1 w hw).2.2.2]
        by_cases e : k = 201
        · rw [if_pos e, e]
          exact ⟨fun _ => ⟨rfl, fr_Q hR f.q (g2.q (by decide))⟩, fun q => absurd (by decide) q⟩
        · rw [if_neg e]
          exact ⟨fun q => absurd ((nI_lt_iff (a := 200) (by decide) (by omega)).mp q) (by omega), fun _ => ⟨in_nI (by omega) (by decide), fun q => absurd (hz (by omega)) q, fun _ => ⟨rfl, fr_Q hR f.q (g2.q (by decide))⟩⟩⟩
    refine it1_inv 201 (fun i y σ' => y = nI i ∧ rg 7 σ' = o_run i (o_zero (rg 1 σ)) ∧ Fc 7 σ σ' ∧ (∀ j, j < i → ¬ o_run j (o_zero (rg 1 σ)) 4 w = 0)) (fun i hi y σ' hI K hK => ?_) (fun y σ' hI K => ?_) 0 σ1 ⟨nI_0.symm, e1, f1, fun j hj => absurd hj (Nat.not_lt_zero j)⟩
    · obtain ⟨rfl, e2, f2, hj⟩ := hI
      unfold qX3_when_L26
      have e3 : σ' 11 w = o_run i (o_zero (rg 1 σ)) 4 w := by rw [← e2, rg_a 4 (by decide) (by decide) (by omega)]
      rw [tn_nI (by omega), e3]
      refine ⟨fun q => absurd ((nI_lt_iff (a := 200) (by decide) (by omega)).mp q) (by omega), fun _ => ⟨in_nI (by omega) (by decide), fun q => ?_, fun q => ?_⟩⟩
      · refine s0_passTick (W := W) (A := A) (t := t + i) (by rw [e2]; exact v.run i (by omega)) (fun σ3 e4 f3 => ?_)
        rintro _ rfl
        refine hK _ _ ⟨nI_1 i, by rw [e4, e2]; rfl, f2.tr f3, fun j hj2 => ?_⟩
        by_cases e : j = i
        · subst e; exact q
        · exact hj j (by omega)
      · have := mdl i σ' (by omega) f2 hj (fun _ => q)
        rw [if_neg (by omega)] at this
        exact this
    · obtain ⟨rfl, e2, f2, hj⟩ := hI
      unfold qX3_when_L26
      refine ⟨fun _ => ?_, fun q => absurd (by decide) q⟩
      have := mdl 201 σ' (by omega) f2 hj (fun q => by omega)
      rw [if_pos rfl] at this
      exact this
  · rw [w3] at c
    unfold qX4_when
    exact isWheel_f w4 hW c (y0 ⟨rfl, h0⟩)
