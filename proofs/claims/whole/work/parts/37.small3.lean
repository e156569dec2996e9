/-! PURE, 8: rule, wheel, alter, images, count -/
theorem h_rule : fp_rule fw_Rel := by
  intro n σ τ a1 hR hn
  obtain ⟨W, A, t, v, ht, s, b⟩ := hR.1.get
  have h0 := fr_0 hR
  have hA3 : σ 1 7 = nI A := v.2.2.1
  have hA4 := s.a v
  have hA := v.2.2.2.1
  have ht4 : τ 1 36 = σ 1 9 := s.2.2.2.2.1
  have ht3 : σ 1 9 = nI t := v.2.2.2.2.1
  unfold qX3_rule qX3_rule_B138
  refine ⟨fun e => ?_, fun n0 => ⟨fun e => ?_, fun n1 => ⟨fun e => ?_, fun n2 => ⟨fun e => ?_, fun n3 => ⟨fun e => ?_, fun n4 => ⟨fun e => ?_, fun n5 => ⟨fun e => ?_, fun n6 => ⟨fun e => ?_, fun n7 => ⟨fun e => ?_, fun n8 => ?_⟩⟩⟩⟩⟩⟩⟩⟩⟩
  · unfold qX4_rule
    refine ⟨vl33_234, ?_⟩
    rintro _ rfl
    exact cs_t e ⟨vl16_234, s.2.2.1.symm, h0⟩
  · unfold qX4_rule
    refine ⟨vl33_234, ?_⟩
    rintro _ rfl
    exact cs_f n0 (cs_t e ⟨s.2.2.2.1.symm, h0⟩)
  · unfold qX4_rule
    refine ⟨vl33_234, ?_⟩
    rintro _ rfl
    exact cs_f n0 (cs_f n1 (cs_t e ⟨vl36_234, ht4.symm, h0⟩))
  · unfold qX4_rule
    refine ⟨vl33_234, ?_⟩
    rintro _ rfl
    refine cs_f n0 (cs_f n1 (cs_f n2 (cs_t e ⟨vl37_234, ?_, h0⟩)))
    have := s.2.2.2.2.2.1
    rw [Int32.add_zero] at this
    exact this.symm
  · unfold qX4_rule
    refine ⟨vl33_234, ?_⟩
    rintro _ rfl
    refine cs_f n0 (cs_f n1 (cs_f n2 (cs_f n3 (cs_t e ⟨vl38_234, ?_, h0⟩))))
    have := s.2.2.2.2.2.2.1
    rw [Int32.add_zero] at this
    exact this.symm
  · unfold qX4_rule
    refine ⟨vl33_234, ?_⟩
    rintro _ rfl
    exact cs_f n0 (cs_f n1 (cs_f n2 (cs_f n3 (cs_f n4 (cs_t e ⟨vl34_234, s.1.symm, h0⟩)))))
  · unfold qX4_rule
    refine ⟨vl33_234, ?_⟩
    rintro _ rfl
    exact cs_f n0 (cs_f n1 (cs_f n2 (cs_f n3 (cs_f n4 (cs_f n5 (cs_t e ⟨vl35_234, s.2.1.symm, h0⟩))))))
  · refine s0_shaftSpeed ?_
    unfold qX4_rule
    refine ⟨vl33_234, ?_⟩
    rintro _ rfl
    exact cs_f n0 (cs_f n1 (cs_f n2 (cs_f n3 (cs_f n4 (cs_f n5 (cs_f n6 (cs_t e (s4_speedOn (p := 0) (by decide) s v ⟨rfl, h0⟩))))))))
  · rw [hA3]
    refine ⟨fun c => ?_, fun c => ?_⟩
    · have hz : A = 0 := by
        rcases Nat.eq_zero_or_pos A with z | z
        · exact z
        · exact absurd c (nIpos z (by omega))
      unfold qX4_rule qX4_rule_B144
      refine ⟨vl33_234, ?_⟩
      rintro _ rfl
      refine cs_f n0 (cs_f n1 (cs_f n2 (cs_f n3 (cs_f n4 (cs_f n5 (cs_f n6 (cs_f n7 (cs_t e ⟨fun z => ?_, fun _ => ⟨rfl, h0⟩⟩))))))))
      rw [tl33, hA4, hz] at z
      exact absurd rfl z
    · have hp : 0 < A := by
        rcases Nat.eq_zero_or_pos A with z | z
        · rw [z] at c; exact absurd (Int32.le_refl 0) c
        · exact z
      refine s0_dueAct v ?_
      unfold qX4_rule qX4_rule_B144
      refine ⟨vl33_234, ?_⟩
      rintro _ rfl
      refine cs_f n0 (cs_f n1 (cs_f n2 (cs_f n3 (cs_f n4 (cs_f n5 (cs_f n6 (cs_f n7 (cs_t e ?_))))))))
      have hl := Nat.mod_lt t hp
      have er : nI t - nI t / nI A * nI A = nI (t % A) := pk_rem (by omega) hp (by omega)
      rw [tl33, tl36, hA4, ht4, ht3, er, jx17, tn_nI (by omega)]
      refine ⟨fun _ => ⟨vl36_234, nIne hp (by omega), in_nI (by omega) (by decide), ?_, h0⟩, fun z => absurd z (nIne hp (by omega))⟩
      have q := s.2.2.2.2.2.2.2.2 _ hl
      rw [Nat.zero_add] at q
      rw [q, o_due, rg_s7, rg_s9, hA3, ht3, if_neg c, remI_nI (by omega) hp (by omega), tn_nI (by omega)]
  · unfold qX4_rule
    refine ⟨vl33_234, ?_⟩
    rintro _ rfl
    exact cs_f n0 (cs_f n1 (cs_f n2 (cs_f n3 (cs_f n4 (cs_f n5 (cs_f n6 (cs_f n7 (cs_f n8 ⟨rfl, h0⟩))))))))
theorem h_wheel : fp_wheel fw_Rel := by
  intro n σ τ a1 a2 hR hn
  obtain ⟨W, A, t, v, ht, s, b⟩ := hR.1.get
  have h0 := fr_0 hR
  have hw := s.w v
  have hw3 : σ 1 2 = nI W := v.1
  have hW := v.2.1
  unfold qX3_wheel
  refine s0_hasWheel (fun c1 c2 => y1 ?_) (fun c => y0 ?_)
  · rw [hw3] at c2
    have c1' := c1
    have c2' := c2
    obtain ⟨w, hw2, rfl⟩ := idx_of c1 c2 (by omega)
    obtain ⟨q1, q2, q3, q4⟩ := s.2.2.2.2.2.2.2.1 w hw2
    rw [rg_a 1 (by decide) (by decide) (by omega)] at q1
    rw [rg_a 2 (by decide) (by decide) (by omega)] at q2
    rw [rg_a 3 (by decide) (by decide) (by omega)] at q3
    rw [rg_a 4 (by decide) (by decide) (by omega)] at q4
    rw [Nat.zero_add] at q1 q2 q3 q4
    obtain ⟨-, ⟨m, em, m1, m2⟩, -⟩ := v.2.2.2.2.2.2.2.1 w hw2
    rw [rg_a 2 (by decide) (by decide) (by omega)] at em
    have hin : vp_in (nI w) 4 := in_nI (by omega) (by decide)
    rw [tn_nI (by omega)]
    refine ⟨fun e => ⟨hin, ?_⟩, fun n0 => ⟨fun e => ⟨hin, ?_⟩, fun n1 => ⟨fun e => ⟨hin, ?_⟩, fun n2 => ⟨fun e => ⟨hin, ?_⟩, fun n3 => ⟨fun e => ⟨hin, ?_⟩, fun n4 => ⟨fun e => ?_, fun n5 => ?_⟩⟩⟩⟩⟩⟩
    · subst e
      unfold qX4_wheel qX4_wheel_B72
      refine isWheel_t hw hW c1' c2' (z1 (in_t (lo := 0) (hi := 5) rfl rfl (by decide) (by decide) (y1 ⟨fun z => absurd z (by decide), fun _ => ?_⟩)))
      have e : (4 : Int32) * 0 + nI w = nI w := by rw [Int32.mul_zero, Int32.zero_add]
      rw [e, tn_nI (by omega)]
      exact ⟨in_nI (by omega) (by decide), q1.symm, h0⟩
    · subst e
      unfold qX4_wheel qX4_wheel_B72
      refine isWheel_t hw hW c1' c2' (z1 (in_t (lo := 0) (hi := 5) rfl rfl (by decide) (by decide) (y1 ⟨fun z => absurd z (by decide), fun _ => ?_⟩)))
      have e : (4 : Int32) * 1 + nI w = nI (4 + w) := by rw [Int32.mul_one, jx4]
      rw [e, tn_nI (by omega)]
      exact ⟨in_nI (by omega) (by decide), q2.symm, h0⟩
    · subst e
      unfold qX4_wheel qX4_wheel_B72
      refine isWheel_t hw hW c1' c2' (z1 (in_t (lo := 0) (hi := 5) rfl rfl (by decide) (by decide) (y1 ⟨fun z => absurd z (by decide), fun _ => ?_⟩)))
      have e : (4 : Int32) * 2 + nI w = nI (8 + w) := by rw [show (4 : Int32) * 2 = 8 from rfl, jx8]
      rw [e, tn_nI (by omega)]
      exact ⟨in_nI (by omega) (by decide), q3.symm, h0⟩
    · subst e
      unfold qX4_wheel qX4_wheel_B72
      refine isWheel_t hw hW c1' c2' (z1 (in_t (lo := 0) (hi := 5) rfl rfl (by decide) (by decide) (y1 ⟨fun z => absurd z (by decide), fun _ => ?_⟩)))
      have e : (4 : Int32) * 3 + nI w = nI (12 + w) := by rw [show (4 : Int32) * 3 = 12 from rfl, jx12]
      rw [e, tn_nI (by omega)]
      exact ⟨in_nI (by omega) (by decide), q4.symm, h0⟩
    · subst e
      refine s3_quotient ?_
      unfold qX4_wheel qX4_wheel_B72
      refine isWheel_t hw hW c1' c2' (z1 (in_t (lo := 0) (hi := 5) rfl rfl (by decide) (by decide) (y1 ⟨fun _ => ⟨fun z => absurd rfl z, fun _ => ?_⟩, fun z => absurd (by decide) z⟩)))
      rw [jx12, jx4, tn_nI (by omega), tn_nI (by omega), q2, q4, em]
      refine ⟨in_nI (by omega) (by decide), in_nI (by omega) (by decide), nIne (by omega) (by omega), ?_, h0⟩
      rw [quo, if_neg (nIpos (by omega) (by omega))]
    · subst e
      refine s0_joinedSwing hin ?_
      rw [tn_nI (by omega)]
      unfold qX4_wheel qX4_wheel_B72
      exact isWheel_t hw hW c1' c2' (z1 (in_t (lo := 0) (hi := 5) rfl rfl (by decide) (by decide) (y1 ⟨fun _ => ⟨fun _ => s4_joinedOn (p := 0) (by decide) s v hw2 ⟨rfl, h0⟩, fun z => absurd z (by decide)⟩, fun z => absurd (by decide) z⟩)))
    · unfold qX4_wheel qX4_wheel_B20
      refine isWheel_t hw hW c1' c2' (z1 (s4_in (lo := 0) (hi := 5) rfl rfl (fun d1 d2 => ?_) (fun _ => y0 ⟨rfl, h0⟩)))
      obtain ⟨k, -, hk, rfl⟩ := rng_of 0 5 d1 d2 (by decide) (by decide)
      exfalso
      have : k = 0 ∨ k = 1 ∨ k = 2 ∨ k = 3 ∨ k = 4 ∨ k = 5 := by omega
      rcases this with rfl | rfl | rfl | rfl | rfl | rfl
      · exact n0 rfl
      · exact n1 rfl
      · exact n2 rfl
      · exact n3 rfl
      · exact n4 rfl
      · exact n5 rfl
  · rw [hw3] at c
    unfold qX4_wheel qX4_wheel_B20
    exact isWheel_f hw hW c (z0 ⟨rfl, h0⟩)
theorem alter_f {a1 a2 a3 s0 : Int32} {W : Nat} {τ : Mem} {post : Int32 → Mem → Prop} (hw : τ 1 16 = nI W) (hW : W ≤ 4) (c : (a1 < 0 ∨ nI W ≤ a1) ∨ s0 = 0) (h : post (-1) τ) : qX4_alter_B72 a1 a2 a3 post s0 τ := by
  unfold qX4_alter_B72 qX4_alter_B92 qX4_alter_B93
  refine s4_isWheel hw hW (fun c1 c2 => z1 ⟨fun _ => puts_f h, fun z => ?_⟩) (fun _ => z0 (puts_f h))
  rcases c with (c | c) | c
  · exact absurd c c1
  · exact absurd c c2
  · exact absurd c z
theorem alter_t {a2 a3 : Int32} {W w j : Nat} {τ : Mem} {post : Int32 → Mem → Prop} (hw : τ 1 16 = nI W) (hW : W ≤ 4) (c1 : ¬ nI w < 0) (c2 : ¬ nI W ≤ nI w) (hw2 : w < 4) (e : a2 = nI j) (hj : j ≤ 3) (h : post (τ 1 (0 + 4 * j + w)) (up2 τ 1 (0 + 4 * j + w) a3)) : qX4_alter_B72 (nI w) a2 a3 post 1 τ := by
  unfold qX4_alter_B72 qX4_alter_B93
  refine isWheel_t hw hW c1 c2 (z1 (z1 (puts_t (k := 0 + 4 * j + w) ?_ (by omega) ?_)))
  · rw [e, show (4 : Int32) = nI 4 from rfl, pk_mul, nI_add, Nat.zero_add]
  · rw [Int32.add_zero, Int32.sub_zero]; exact h
theorem s3_replace {c n w : Nat} {x : Int32} {σ : Mem} {post : Int32 → Mem → Prop} (hw : w < n) (hn : n < 2147483648) (h : post (σ c w) (up2 σ c w x)) : qX3_replace c n (nI w) x σ post := by
  unfold qX3_replace
  rw [tn_nI (by omega)]
  refine ⟨in_nI hw hn, ?_⟩
  rintro _ rfl _ rfl
  exact h
theorem alter_R {n W A t w j : Nat} {σ τ : Mem} (x : Int32) (hR : fw_Rel n σ τ) (v : Vd W A t (rg 1 σ)) (ht : t < 10000) (s : Sm 0 W A τ (rg 1 σ) 0 0) (b : Bd W (10000 * n) (rg 1 σ)) (hw : w < W) (hj : j ≤ 3) (v' : Vd W A t (up2 (rg 1 σ) (j + 1) w x)) (b' : Bd W (10000 * (n + 1)) (up2 (rg 1 σ) (j + 1) w x)) : σ (1 + (j + 1)) w = τ 1 (0 + 4 * j + w) ∧ fw_Rel (n + 1) (up2 σ (1 + (j + 1)) w x) (up2 τ 1 (0 + 4 * j + w) x) := by
  have hW := v.2.1
  have hA := v.2.2.2.1
  refine ⟨?_, fr_c hR (Fc.rf.up (by omega) _ _) (Fm.rf.up (by omega) (by omega) _) ⟨W, A, t, ?_, ht, ?_, ?_⟩⟩
  · obtain ⟨q1, q2, q3, q4⟩ := s.2.2.2.2.2.2.2.1 w hw
    rw [← rg_a (b := 1) (σ := σ) (j + 1) (by omega) (by omega) (by omega)]
    have : j = 0 ∨ j = 1 ∨ j = 2 ∨ j = 3 := by omega
    rcases this with rfl | rfl | rfl | rfl
    · exact q1.symm
    · exact q2.symm
    · exact q3.symm
    · exact q4.symm
  · rw [rg_up 1 σ (j + 1) _ _ (rgk_a (by omega) (by omega) (by omega))]; exact v'
  · rw [rg_up 1 σ (j + 1) _ _ (rgk_a (by omega) (by omega) (by omega))]; exact s.arr hW hA hj (by omega) x
  · rw [rg_up 1 σ (j + 1) _ _ (rgk_a (by omega) (by omega) (by omega))]; exact b'
theorem h_alter : fp_alter fw_Rel := by
  intro n σ τ a1 a2 a3 hR hn
  obtain ⟨W, A, t, v, ht, s, b⟩ := hR.1.get
  have h0 := fr_0 hR
  have hw := s.w v
  have hw3 : σ 1 2 = nI W := v.1
  have hW := v.2.1
  have nope : ((a1 < 0 ∨ nI W ≤ a1) ∨ (¬ a2 = 0 ∧ ¬ a2 = 1 ∧ ¬ a2 = 2 ∧ ¬ a2 = 3)) → qX4_alter a1 a2 a3 τ (fun r' τ' => -1 = r' ∧ fw_Rel (n + 1) σ τ') := by
    intro c
    unfold qX4_alter qX4_alter_B71
    rcases c with c | ⟨n0, n1, n2, n3⟩
    · have hf : ∀ s0, qX4_alter_B72 a1 a2 a3 (fun r' τ' => -1 = r' ∧ fw_Rel (n + 1) σ τ') s0 τ := fun s0 => alter_f hw hW (Or.inl c) ⟨rfl, h0⟩
      exact ⟨fun _ => ⟨fun _ => ⟨fun _ => ⟨fun _ => hf 0, fun _ => s4_in (lo := 0) (hi := 9999) rfl rfl (fun _ _ => z1 (hf 1)) (fun _ => z0 (hf 0))⟩, fun _ => s4_in (lo := 0) (hi := 9) rfl rfl (fun _ _ => hf 1) (fun _ => hf 0)⟩, fun _ => s4_in (lo := 1) (hi := 20) rfl rfl (fun _ _ => hf 1) (fun _ => hf 0)⟩, fun _ => s4_in (lo := 0) (hi := 3) rfl rfl (fun _ _ => hf 1) (fun _ => hf 0)⟩
    · exact ds_f n0 (ds_f n1 (ds_f n2 (ds_f n3 (alter_f hw hW (Or.inr rfl) ⟨rfl, h0⟩))))
  unfold qX3_alter qX3_alter_B69 qX3_alter_B96 qX3_alter_B123 qX3_alter_B151
  refine s0_hasWheel (fun c1 c2 => y1 ?_) (fun c => y0 ?_)
  · rw [hw3] at c2
    have c1' := c1
    have c2' := c2
    obtain ⟨w, hw2, rfl⟩ := idx_of c1 c2 (by omega)
    refine ⟨fun e => ?_, fun n0 => ⟨fun e => ?_, fun n1 => ⟨fun e => ?_, fun n2 => ⟨fun e => ?_, fun n3 => ?_⟩⟩⟩⟩
    · subst e
      refine s3_within (fun c3 c4 => z1 ?_) (fun c => z0 ?_)
      · refine s3_replace (by omega) (by decide) ?_
        unfold qX4_alter
        refine ds_t rfl (in_t (lo := 0) (hi := 3) rfl rfl c3 c4 (alter_t (j := 0) hw hW c1' c2' (by omega) rfl (by decide) ?_))
        obtain ⟨k, -, hk, rfl⟩ := rng_of 0 3 c3 c4 (by decide) (by decide)
        exact alter_R (j := 0) (nI k) hR v ht s b hw2 (by decide) (v.k hk) ((b.mono (by omega)).fr rfl rfl)
      · unfold qX4_alter
        exact ds_t rfl (in_f (lo := 0) (hi := 3) rfl rfl c (alter_f hw hW (Or.inr rfl) ⟨rfl, h0⟩))
    · subst e
      refine s3_within (fun c3 c4 => z1 ?_) (fun c => z0 ?_)
      · refine s3_replace (by omega) (by decide) ?_
        unfold qX4_alter
        refine ds_f n0 (ds_t rfl (in_t (lo := 1) (hi := 20) rfl rfl c3 c4 (alter_t (j := 1) hw hW c1' c2' (by omega) rfl (by decide) ?_)))
        obtain ⟨k, k1, hk, rfl⟩ := rng_of 1 20 c3 c4 (by decide) (by decide)
        exact alter_R (j := 1) (nI k) hR v ht s b hw2 (by decide) (v.m k1 hk) ((b.mono (by omega)).fr rfl rfl)
      · unfold qX4_alter
        exact ds_f n0 (ds_t rfl (in_f (lo := 1) (hi := 20) rfl rfl c (alter_f hw hW (Or.inr rfl) ⟨rfl, h0⟩)))
    · subst e
      refine s3_within (fun c3 c4 => z1 ?_) (fun c => z0 ?_)
      · refine s3_replace (by omega) (by decide) ?_
        unfold qX4_alter
        refine ds_f n0 (ds_f n1 (ds_t rfl (in_t (lo := 0) (hi := 9) rfl rfl c3 c4 (alter_t (j := 2) hw hW c1' c2' (by omega) rfl (by decide) ?_))))
        obtain ⟨k, -, hk, rfl⟩ := rng_of 0 9 c3 c4 (by decide) (by decide)
        exact alter_R (j := 2) (nI k) hR v ht s b hw2 (by decide) (v.l hk) ((b.mono (by omega)).fr rfl rfl)
      · unfold qX4_alter
        exact ds_f n0 (ds_f n1 (ds_t rfl (in_f (lo := 0) (hi := 9) rfl rfl c (alter_f hw hW (Or.inr rfl) ⟨rfl, h0⟩))))
    · subst e
      refine s3_within (fun c3 c4 => z1 ?_) (fun c => z0 ?_)
      · refine s3_replace (by omega) (by decide) ?_
        unfold qX4_alter
        refine ds_f n0 (ds_f n1 (ds_f n2 (ds_t rfl (in_t (lo := 0) (hi := 9999) rfl rfl c3 c4 (z1 (alter_t (j := 3) hw hW c1' c2' (by omega) rfl (by decide) ?_))))))
        obtain ⟨k, -, hk, rfl⟩ := rng_of 0 9999 c3 c4 (by decide) (by decide)
        exact alter_R (j := 3) (nI k) hR v ht s b hw2 (by decide) (v.st (St.up4 _ _ _)) (b.sw.mono (by omega))
      · unfold qX4_alter qX4_alter_B71
        exact ds_f n0 (ds_f n1 (ds_f n2 (ds_t rfl (in_f (lo := 0) (hi := 9999) rfl rfl c (z0 (alter_f hw hW (Or.inr rfl) ⟨rfl, h0⟩))))))
    · exact nope (Or.inr ⟨n0, n1, n2, n3⟩)
  · rw [hw3] at c
    exact nope (Or.inl c)
theorem R2.of {n : Nat} {σ τ : Mem} (h : R2 n σ τ) (k : Nat) (hk : k < 2) : τ 8 k = σ 32 k := (h k hk).1
theorem h_keep : fp_keep fw_Rel := by
  intro n σ τ a1 hR hn
  have h0 := fr_0 hR
  unfold qX3_keep
  refine s3_within (fun c1 c2 => y1 ?_) (fun c => y0 ?_)
  · have c1' := c1
    have c2' := c2
    obtain ⟨k, -, hk, rfl⟩ := rng_of 0 1 c1 c2 (by decide) (by decide)
    have hin : vp_in (nI k) 2 := in_nI (by omega) (by decide)
    rw [tn_nI (by omega)]
    have go : ∀ s0 : Int32, (s0 = 0 ∧ σ 32 k = 0 ∨ s0 = 1 ∧ ¬ σ 32 k = 0) → qX3_keep_B25 (nI k) (fun r σ' => qX4_keep (nI k) τ (fun r' τ' => r = r' ∧ fw_Rel (n + 1) σ' τ')) s0 σ := by
      intro s0 hs0
      unfold qX3_keep_B25
      rw [tn_nI (by omega)]
      refine ⟨hin, s0_become (by omega) (fun σ' e f _ => ?_)⟩
      rintro _ rfl
      unfold qX4_keep
      refine in_t (lo := 0) (hi := 1) rfl rfl c1' c2' (y1 ?_)
      rw [nI_1, show (39 : Int32) = nI 39 from rfl, pk_mul, tn_nI (by omega)]
      refine s4_copies (p := 0) (by decide) (by omega) (by omega) (fun τ' e1 e2 e3 => ⟨hin, ?_⟩)
      have q : τ' 8 k = σ 32 k := by rw [e3 8 (by decide)]; exact hR.2.1.of k (by omega)
      have fin : fw_Rel (n + 1) (up2 σ' 32 k 1) (up2 τ' 8 k 1) := by
        obtain ⟨r1, r2, r3, r4, r5, r6, r7⟩ := hR
        have f' : ∀ c, c ≠ 32 → (c < 19 + 6 * k ∨ 19 + 6 * k + 6 ≤ c) → up2 σ' 32 k 1 c = σ c := fun c h1 h2 => by rw [rd_c h1]; exact f c h2
        have g' : ∀ c, c ≠ 1 → c ≠ 8 → up2 τ' 8 k 1 c = τ c := fun c h1 h2 => by rw [rd_c h2]; exact e3 c h1
        have g1 : ∀ j, (j < 39 * (k + 1) ∨ 39 * (k + 1) + 39 ≤ j) → up2 τ' 8 k 1 1 j = τ 1 j := fun j hj => by rw [rd_cj (by decide)]; exact e2 j hj
        refine ⟨r1.fr (rg_ext (fun j i hj => by have := rgk_lt hj; rw [f' _ (by omega) (by omega)])) (fun j hj => g1 j (by omega)), fun j hj => ?_, r3.fr (by rw [f' 33 (by omega) (by omega)]) (f' 34 (by omega) (by omega)) (by rw [g' 0 (by decide) (by decide)]) (g' 3 (by decide) (by decide)), r4.fr (by rw [f' 0 (by omega) (by omega)]) (by rw [f' 0 (by omega) (by omega)]) (by rw [g' 0 (by decide) (by decide)]) (by rw [g' 0 (by decide) (by decide)]), r5.fr (by rw [f' 0 (by omega) (by omega)]) (f' 44 (by omega) (by omega)) (f' 45 (by omega) (by omega)) (f' 46 (by omega) (by omega)) (by rw [g' 0 (by decide) (by decide)]) (g' 6 (by decide) (by decide)), r6.fr (fun c h1 h2 => f' c (by omega) (by omega)) (g' 9 (by decide) (by decide)) (g' 10 (by decide) (by decide)) (g' 11 (by decide) (by decide)), r7.fr (by rw [g' 0 (by decide) (by decide)]) (by rw [g' 0 (by decide) (by decide)]) (g' 4 (by decide) (by decide)) (g' 5 (by decide) (by decide))⟩
        by_cases ej : j = k
        · subst ej
          rw [rd_eq, rd_eq]
          refine ⟨rfl, fun _ => ?_⟩
          have q1 : rg (19 + 6 * j) (up2 σ' 32 j 1) = rg 1 σ := by rw [rg_out _ _ (by omega), e]
          rw [q1]
          refine (Pg.mono r1 (by omega)).fr (fun i hi => ?_)
          rw [rd_cj (by decide), e1 i hi]
        · rw [rd_ne ej, rd_ne ej]
          obtain ⟨p1, p2⟩ := r2 j hj
          rw [e3 8 (by decide), f 32 (by omega)]
          refine ⟨p1, fun c => ?_⟩
          have q1 : rg (19 + 6 * j) (up2 σ' 32 k 1) = rg (19 + 6 * j) σ := rg_ext (fun a i hj => by have := rgk_lt hj; rw [f' _ (by omega) (by omega)])
          rw [q1]
          exact ((p2 c).mono (by omega)).fr (fun i hi => g1 _ (by omega))
      unfold qX4_keep_B37
      rw [q, tn_nI (by omega)]
      rcases hs0 with ⟨rfl, z⟩ | ⟨rfl, z⟩
      · refine ⟨fun _ => ⟨hin, ?_⟩, fun y => absurd z y⟩
        rintro _ rfl
        exact ⟨rfl, fin⟩
      · refine ⟨fun y => absurd y z, fun _ => ⟨hin, ?_⟩⟩
        rintro _ rfl
        exact ⟨rfl, fin⟩
    exact ⟨hin, fun z => go 0 (Or.inl ⟨rfl, z⟩), fun z => go 1 (Or.inr ⟨rfl, z⟩)⟩
  · unfold qX4_keep
    exact in_f (lo := 0) (hi := 1) rfl rfl c (y0 ⟨rfl, h0⟩)
theorem h_back : fp_back fw_Rel := by
  intro n σ τ a1 hR hn
  have h0 := fr_0 hR
  unfold qX3_back
  refine s3_within (fun c1 c2 => y1 ?_) (fun c => y0 ?_)
  · have c1' := c1
    have c2' := c2
    obtain ⟨k, -, hk, rfl⟩ := rng_of 0 1 c1 c2 (by decide) (by decide)
    have hin : vp_in (nI k) 2 := in_nI (by omega) (by decide)
    rw [tn_nI (by omega)]
    obtain ⟨q1, q2⟩ := hR.2.1 k (by omega)
    refine ⟨hin, fun z => ?_, fun z => ?_⟩
    · refine s0_become (by omega) (fun σ' e f _ => ?_)
      unfold qX4_back
      refine in_t (lo := 0) (hi := 1) rfl rfl c1' c2' (y1 ⟨hin, ?_⟩)
      rw [nI_1, show (39 : Int32) = nI 39 from rfl, pk_mul, tn_nI (by omega), q1]
      refine ⟨fun _ => ?_, fun y => absurd y z⟩
      refine s4_copies (q := 0) (by omega) (by decide) (by omega) (fun τ' e1 e2 e3 => ⟨vl36_234, ?_, ?_⟩)
      · obtain ⟨W, A, t, v, ht, s, b⟩ := q2 z
        have := e1 36 (by decide)
        rw [tl36]
        rw [s.2.2.2.2.1, ← e] at this
        exact this.symm
      · refine fr_c hR f ⟨fun c h1 h2 => e3 c h2, fun j _ _ => by rw [e3 0 (by decide)], fun j hj => e2 j (by omega)⟩ ?_
        unfold R1
        rw [e]
        exact ((q2 z).mono (by omega)).fr (q := 0) e1
    · unfold qX4_back
      refine in_t (lo := 0) (hi := 1) rfl rfl c1' c2' (y1 ⟨hin, ?_⟩)
      rw [tn_nI (by omega), q1]
      exact ⟨fun y => absurd z y, fun _ => ⟨rfl, h0⟩⟩
  · unfold qX4_back
    exact in_f (lo := 0) (hi := 1) rfl rfl c (y0 ⟨rfl, h0⟩)
