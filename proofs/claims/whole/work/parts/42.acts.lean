/-! PURE, 13: which acts should change, which had better not be, which wheel had better be off; when all is as now -/
def stp (c v : Int32) (p : Int32 × Int32) : Int32 × Int32 := if v ≤ p.2 then p else (c, v)
theorem stp_le {c v : Int32} {p : Int32 × Int32} (h : v ≤ p.2) : stp c v p = p := if_pos h
theorem stp_gt {c v : Int32} {p : Int32 × Int32} (h : ¬ v ≤ p.2) : stp c v p = (c, v) := if_neg h
theorem stp_mono (c v : Int32) (p : Int32 × Int32) : p.2 ≤ (stp c v p).2 := by
  by_cases h : v ≤ p.2
  · rw [stp_le h]; exact Int32.le_refl _
  · rw [stp_gt h]
    rw [i32_le] at h ⊢
    show p.2.toInt ≤ v.toInt
    omega
def inn (f : Nat → Nat → Int32) (i : Nat) (p : Int32 × Int32) : Nat → Int32 × Int32
  | 0 => p
  | k + 1 => stp (nI (100 * i + (i + 1 + k))) (f i (i + 1 + k)) (inn f i p k)
def outr (f : Nat → Nat → Int32) (A : Nat) (p : Int32 × Int32) : Nat → Int32 × Int32
  | 0 => p
  | k + 1 => inn f k (outr f A p k) (A - (k + 1))
theorem inn_mono (f : Nat → Nat → Int32) (i : Nat) (p : Int32 × Int32) : ∀ k, p.2 ≤ (inn f i p k).2
  | 0 => Int32.le_refl _
  | k + 1 => by
    have h1 := inn_mono f i p k
    have h2 := stp_mono (nI (100 * i + (i + 1 + k))) (f i (i + 1 + k)) (inn f i p k)
    rw [i32_le] at h1 h2 ⊢
    rw [inn]
    omega
theorem outr_mono (f : Nat → Nat → Int32) (A : Nat) (p : Int32 × Int32) : ∀ k, p.2 ≤ (outr f A p k).2
  | 0 => Int32.le_refl _
  | k + 1 => by
    have h1 := outr_mono f A p k
    have h2 := inn_mono f k (outr f A p k) (A - (k + 1))
    rw [i32_le] at h1 h2 ⊢
    rw [outr]
    omega
def flN (f : Nat → Int32) (p : Int32 × Int32) : Nat → Int32 × Int32
  | 0 => p
  | k + 1 => stp (nI k) (f k) (flN f p k)
def rsl (a2 : Int32) (p : Int32 × Int32) : Int32 := if p.1 = -4 then p.1 else if a2 = 0 then p.1 else p.2
/-- the plan exchanged -/
theorem swp_rg {b i j : Nat} {σ : Mem} (hi : i < 16) (hj : j < 16) (x y : Int32) : rg b (up2 (up2 σ (b + 5) i x) (b + 5) j y) = up2 (up2 (rg b σ) 5 i x) 5 j y := by
  rw [rg_up b _ 5 _ _ (rgk_p hj), rg_up b _ 5 _ _ (rgk_p hi)]
theorem s3_doneAsItIs {W A t x : Nat} {σ : Mem} {post : Int32 → Mem → Prop} (v : Vd W A t (o_zero (rg 1 σ))) (ht : t < 10000) (hx : x ≤ 200) (h : ∀ σ', Fc 7 σ σ' → post (o_run x (o_zero (rg 1 σ)) 0 10) σ') : qX3_doneAsItIs (nI x) σ post := by
  unfold qX3_doneAsItIs
  refine s0_startAs (by decide) (fun σ1 e1 f1 => ?_)
  refine s0_runTicks (W := W) (A := A) (t := t) (by rw [e1]; exact v) (by omega) (fun σ2 e2 f2 => ?_)
  have e4 : σ2 7 10 = o_run x (o_zero (rg 1 σ)) 0 10 := by rw [← e1, ← e2]; rfl
  rw [e4]
  exact h σ2 (f1.tr f2)
def swp (ρ : Mem) (i j : Nat) : Mem := up2 (up2 ρ 5 i (ρ 5 j)) 5 j (ρ 5 i)
theorem swp_same {ρ : Mem} {i j : Nat} (h : ρ 5 i = ρ 5 j) : swp ρ i j = ρ := by
  unfold swp
  rw [← h, up2_self, h, up2_self]
theorem Vd.swq {W A t i j : Nat} {ρ : Mem} (v : Vd W A t ρ) (hi : i < A) (hj : j < A) : Vd W A t (swp ρ i j) := by
  obtain ⟨y, ey, hy⟩ := v.2.2.2.2.2.2.2.2 i hi
  obtain ⟨x, ex, hx⟩ := v.2.2.2.2.2.2.2.2 j hj
  unfold swp
  rw [ex, ey]
  exact (v.p hx).p hy
theorem h_swap : fp_swap fw_Rel := by
  intro n σ τ a1 a2 hR hn
  have h0 := fr_0 hR
  obtain ⟨W, A, t, v, ht, hW, hA, s, b, w3, w4, x3, x4, h14, h15⟩ := q_get hR
  unfold qX3_swap
  refine s3_asksBest (fun c3 c4 c5 c6 => y1 ?_) (fun c => y0 ?_) (fun c3 c4 c => y0 ?_)
  · have c3' := c3
    have c4' := c4
    obtain ⟨x, -, hx, rfl⟩ := rng_of 0 200 c3 c4 (by decide) (by decide)
    refine s3_doneAsItIs v ht hx (fun σ1 f1 => ?_)
    generalize hf : (fun i j => o_run x (swp (o_zero (rg 1 σ)) i j) 0 10 : Nat → Nat → Int32) = f
    generalize hp : ((-4, o_run x (o_zero (rg 1 σ)) 0 10) : Int32 × Int32) = p
    have hf2 : ∀ i j, o_run x (swp (o_zero (rg 1 σ)) i j) 0 10 = f i j := fun i j => by rw [← hf]
    have hp2 : p.2 = o_run x (o_zero (rg 1 σ)) 0 10 := by rw [← hp]
    have hp1 : p.1 = -4 := by rw [← hp]
    have mdl : ∀ σ', Fc 7 σ σ' → qX4_swap (nI x) a2 τ (fun r' τ' => rsl a2 (outr f A p A) = r' ∧ fw_Rel (n + 1) σ' τ') := by
      intro σ' f'
      unfold qX4_swap
      refine isLong_t c3' c4' (z1 (in_t (lo := 0) (hi := 1) rfl rfl c5 c6 (y1 (go0 (p := 0) (Or.inl rfl) v ht s h14 h15 (zero12 _) hx (fun τ1 _ g1 _ _ => ?_)))))
      have q1 := g1.q (by decide)
      refine it3_inv A (fun k y3 y4 y5 τ' => y3 = (outr f A p k).2 ∧ y4 = (outr f A p k).1 ∧ y5 = nI k ∧ Qm τ τ') (fun k hk y3 y4 y5 τ' hI K hK => ?_) (fun y3 y4 y5 τ' hI K => ?_) _ (-4) 0 τ1 ⟨hp2.symm, hp1.symm, nI_0.symm, q1⟩
      · obtain ⟨rfl, rfl, rfl, q⟩ := hI
        unfold qX4_swap_L33
        rw [tl33, q.1 33 (by decide), x4]
        refine ⟨vl33_234, fun r => absurd ((nI_le_iff (by omega) (by omega)).mp r) (by omega), fun _ => ?_⟩
        rw [nI_1]
        rintro _ rfl
        refine it4_inv (A - (k + 1)) (fun m y3 y4 y5 y6 τ' => y3 = (inn f k (outr f A p k) m).2 ∧ y4 = (inn f k (outr f A p k) m).1 ∧ y5 = nI k ∧ y6 = nI (k + 1 + m) ∧ Qm τ τ') (fun m hm y3 y4 y5 y6 τ' hI K' hK' => ?_) (fun y3 y4 y5 y6 τ' hI K' => ?_) _ _ (nI k) (nI (k + 1)) τ' ⟨rfl, rfl, rfl, rfl, q⟩
        · obtain ⟨rfl, rfl, rfl, rfl, q⟩ := hI
          unfold qX4_swap_L51
          rw [tl33, q.1 33 (by decide), x4]
          refine ⟨vl33_234, fun r => absurd ((nI_le_iff (by omega) (by omega)).mp r) (by omega), fun _ => ?_⟩
          have sq : Sm 0 W A τ' (o_zero (rg 1 σ)) (τ 1 37) (τ 1 38) := s.copy hW hA (fun i hi => q.1 _ (by omega))
          refine copy195 hW hA sq (fun τ2 s2 g2 => ?_)
          have q2 := q.tr (g2.q (by decide))
          rw [jx17, jx17, jx212, jx212, tn_nI (by omega), tn_nI (by omega), tn_nI (by omega), tn_nI (by omega)]
          refine ⟨in_nI (by omega) (by decide), in_nI (by omega) (by decide), ?_⟩
          rintro _ rfl
          refine ⟨in_nI (by omega) (by decide), in_nI (by omega) (by decide), ?_⟩
          rintro _ rfl
          have ej : τ2 1 (17 + (k + 1 + m)) = o_zero (rg 1 σ) 5 (k + 1 + m) := by
            rw [q2.1 _ (by omega)]
            have := s.2.2.2.2.2.2.2.2 (k + 1 + m) (by omega)
            rw [Nat.zero_add] at this
            exact this
          have ei : up2 τ2 1 (212 + k) (τ2 1 (17 + (k + 1 + m))) 1 (17 + k) = o_zero (rg 1 σ) 5 k := by
            rw [rd_ne (by omega), q2.1 _ (by omega)]
            have := s.2.2.2.2.2.2.2.2 k (by omega)
            rw [Nat.zero_add] at this
            exact this
          rw [ei, ej]
          have s3 := (s2.act hW hA (w := k) (by omega) (o_zero (rg 1 σ) 5 (k + 1 + m))).act hW hA (w := k + 1 + m) (by omega) (o_zero (rg 1 σ) 5 k)
          rw [show 195 + 17 + k = 212 + k by omega, show 195 + 17 + (k + 1 + m) = 212 + (k + 1 + m) by omega] at s3
          have q3 : Qm τ (up2 (up2 τ2 1 (212 + k) (o_zero (rg 1 σ) 5 (k + 1 + m))) 1 (212 + (k + 1 + m)) (o_zero (rg 1 σ) 5 k)) := q2.tr ⟨fun i hi => by rw [rd_ne (by omega), rd_ne (by omega)], fun c _ h1 _ => by rw [rd_c h1, rd_c h1], fun i _ _ => by rw [rd_cj (by decide), rd_cj (by decide)]⟩
          refine go0 (p := 195) (ρ := swp (o_zero (rg 1 σ)) k (k + 1 + m)) (Or.inr rfl) (v.swq (by omega) (by omega)) ht ?_ ?_ ?_ ?_ hx (fun τ4 _ g4 _ _ => ?_)
          · rw [q3.1 37 (by decide), q3.1 38 (by decide)]; exact s3
          · rw [q3.2.2 14 (by decide) (by decide)]; exact h14
          · rw [q3.2.2 15 (by decide) (by decide)]; exact h15
          · exact zero12 (rg 1 σ)
          · rw [hf2]
            have q4 := q3.tr (g4.q (by decide))
            unfold qX4_swap_B142 qX4_swap_B156
            rw [nI_1, show (100 : Int32) = nI 100 from rfl, pk_mul, nI_add]
            refine ⟨fun r => ⟨fun _ => ?_, fun r2 => absurd r r2⟩, fun r => ⟨fun r2 => absurd r2 r, fun _ => ?_⟩⟩
            · rintro _ rfl
              exact hK' _ _ _ _ _ ⟨by rw [inn, stp_le r], by rw [inn, stp_le r], rfl, rfl, q4⟩
            · rintro _ rfl
              exact hK' _ _ _ _ _ ⟨by rw [inn, stp_gt r], by rw [inn, stp_gt r], rfl, rfl, q4⟩
        · obtain ⟨rfl, rfl, rfl, rfl, q⟩ := hI
          unfold qX4_swap_L51
          rw [tl33, q.1 33 (by decide), x4]
          refine ⟨vl33_234, fun _ => ?_, fun r => absurd ((nI_le_iff (by omega) (by omega)).mpr (by omega)) r⟩
          rw [nI_1]
          rintro _ rfl
          exact hK _ _ _ _ ⟨rfl, rfl, rfl, q⟩
      · obtain ⟨rfl, rfl, rfl, q⟩ := hI
        unfold qX4_swap_L33 qX4_swap_B180 qX4_swap_B186
        rw [tl33, q.1 33 (by decide), x4]
        refine ⟨vl33_234, fun _ => ⟨fun r => ⟨?_, fr_Q hR f'.q q⟩, fun r => ⟨fun r2 => ⟨?_, fr_Q hR f'.q q⟩, fun r2 => ⟨?_, fr_Q hR f'.q q⟩⟩⟩, fun r => absurd (Int32.le_refl _) r⟩
        · rw [rsl, if_pos r]
        · rw [rsl, if_neg r, if_neg r2]
        · rw [rsl, if_neg r, if_pos r2]
    refine it3_inv A (fun k y3 y4 y5 σ' => y4 = (outr f A p k).2 ∧ y3 = (outr f A p k).1 ∧ y5 = nI k ∧ Fc 7 σ σ') (fun k hk y3 y4 y5 σ' hI K hK => ?_) (fun y3 y4 y5 σ' hI K => ?_) (-4) _ 0 σ1 ⟨hp2.symm, hp1.symm, nI_0.symm, f1⟩
    · obtain ⟨rfl, rfl, rfl, fc⟩ := hI
      unfold qX3_swap_L23
      rw [fc 1 (by decide), x3]
      refine ⟨fun r => absurd ((nI_le_iff (by omega) (by omega)).mp r) (by omega), fun _ => ?_⟩
      rw [nI_1]
      rintro _ rfl
      refine it4_inv (A - (k + 1)) (fun m y3 y4 y5 y6 σ' => y4 = (inn f k (outr f A p k) m).2 ∧ y3 = (inn f k (outr f A p k) m).1 ∧ y5 = nI k ∧ y6 = nI (k + 1 + m) ∧ Fc 7 σ σ') (fun m hm y3 y4 y5 y6 σ' hI K' hK' => ?_) (fun y3 y4 y5 y6 σ' hI K' => ?_) _ _ (nI k) (nI (k + 1)) σ' ⟨rfl, rfl, rfl, rfl, fc⟩
      · obtain ⟨rfl, rfl, rfl, rfl, fc⟩ := hI
        unfold qX3_swap_L41 qX3_swap_B107
        rw [fc 1 (by decide), fc 6 (by decide), x3, tn_nI (by omega), tn_nI (by omega), nI_1, show (100 : Int32) = nI 100 from rfl, pk_mul, nI_add]
        refine ⟨fun r => absurd ((nI_le_iff (by omega) (by omega)).mp r) (by omega), fun _ => ⟨in_nI (by omega) (by decide), in_nI (by omega) (by decide), fun r => ?_, fun r => ?_⟩⟩
        · rintro _ rfl
          have es : f k (k + 1 + m) ≤ (inn f k (outr f A p k) m).2 := by
            have r5 : o_zero (rg 1 σ) 5 k = o_zero (rg 1 σ) 5 (k + 1 + m) := by
              show rg 1 σ 5 k = rg 1 σ 5 (k + 1 + m)
              rw [rg_p (by omega), rg_p (by omega)]
              exact r
            rw [← hf2, swp_same r5, ← hp2]
            have m1 := outr_mono f A p k
            have m2 := inn_mono f k (outr f A p k) m
            rw [i32_le] at m1 m2 ⊢
            omega
          exact hK' _ _ _ _ _ ⟨by rw [inn, stp_le es], by rw [inn, stp_le es], rfl, nI_1 _, fc⟩
        · unfold qX3_doneSwapped
          refine s0_startAs (by decide) (fun σ2 e2 f2 => ⟨in_nI (by omega) (by decide), in_nI (by omega) (by decide), ?_⟩)
          rw [fc.q.r1] at e2
          rw [tn_nI (by omega), tn_nI (by omega)]
          rintro _ rfl
          rintro _ rfl
          have fc2 := fc.tr f2
          have e3 : rg 7 (up2 (up2 σ2 12 k (σ2 6 (k + 1 + m))) 12 (k + 1 + m) (up2 σ2 12 k (σ2 6 (k + 1 + m)) 6 k)) = swp (o_zero (rg 1 σ)) k (k + 1 + m) := by
            rw [swp_rg (b := 7) (by omega) (by omega), e2, rd_cj (by decide), fc2 6 (by decide)]
            show _ = up2 (up2 (o_zero (rg 1 σ)) 5 k (rg 1 σ 5 (k + 1 + m))) 5 (k + 1 + m) (rg 1 σ 5 k)
            rw [rg_p (by omega), rg_p (by omega)]
          have f3 : Fc 7 σ (up2 (up2 σ2 12 k (σ2 6 (k + 1 + m))) 12 (k + 1 + m) (up2 σ2 12 k (σ2 6 (k + 1 + m)) 6 k)) := (fc2.up (j := 5) (by decide) _ _).up (j := 5) (by decide) _ _
          refine s0_runTicks (W := W) (A := A) (t := t) (by rw [e3]; exact v.swq (by omega) (by omega)) (by omega) (fun σ3 e4 f4 => ?_)
          rw [e3] at e4
          have e5 : σ3 7 10 = f k (k + 1 + m) := by rw [← hf2, ← e4]; rfl
          rw [e5]
          refine ⟨fun r2 => ?_, fun r2 => ?_⟩
          · rintro _ rfl
            exact hK' _ _ _ _ _ ⟨by rw [inn, stp_le r2], by rw [inn, stp_le r2], rfl, nI_1 _, f3.tr f4⟩
          · rintro _ rfl _ rfl
            exact hK' _ _ _ _ _ ⟨by rw [inn, stp_gt r2], by rw [inn, stp_gt r2], rfl, nI_1 _, f3.tr f4⟩
      · obtain ⟨rfl, rfl, rfl, rfl, fc⟩ := hI
        unfold qX3_swap_L41
        rw [fc 1 (by decide), x3]
        refine ⟨fun _ => ?_, fun r => absurd ((nI_le_iff (by omega) (by omega)).mpr (by omega)) r⟩
        rw [nI_1]
        rintro _ rfl
        exact hK _ _ _ _ ⟨rfl, rfl, rfl, fc⟩
    · obtain ⟨rfl, rfl, rfl, fc⟩ := hI
      unfold qX3_swap_L23 qX3_swap_B129 qX3_swap_B135
      rw [fc 1 (by decide), x3]
      have M := mdl σ' fc
      refine ⟨fun _ => ⟨fun r => ?_, fun r => ⟨fun r2 => ?_, fun r2 => ?_⟩⟩, fun r => absurd (Int32.le_refl _) r⟩
      · rw [rsl, if_pos r] at M; exact M
      · rw [rsl, if_neg r, if_neg r2] at M; exact M
      · rw [rsl, if_neg r, if_pos r2] at M; exact M
  · unfold qX4_swap qX4_swap_B17
    exact isLong_f c (z0 ⟨rfl, h0⟩)
  · unfold qX4_swap qX4_swap_B17
    exact isLong_t c3 c4 (z1 (in_f (lo := 0) (hi := 1) rfl rfl c (y0 ⟨rfl, h0⟩)))
/-! with another plan -/
theorem s5_rd {ρ : Mem} {g : Nat → Int32} {c : Nat} (h : c ≠ 5) : setc ρ 5 g c = ρ c := if_neg h
theorem s5_5 {ρ : Mem} {g : Nat → Int32} : setc ρ 5 g 5 = g := if_pos rfl
theorem s5_up {ρ : Mem} {g : Nat → Int32} {c i : Nat} {v : Int32} (h : c ≠ 5) : up2 (setc ρ 5 g) c i v = setc (up2 ρ c i v) 5 g := by
  funext k
  unfold up2
  unfold setc
  by_cases e1 : k = c
  · rw [if_pos e1, e1, if_neg h, if_neg h, if_pos rfl]
  · rw [if_neg e1]
    by_cases e2 : k = 5
    · rw [if_pos e2, if_pos e2]
    · rw [if_neg e2, if_neg e2, if_neg e1]
theorem s5_load (w : Int32) (ρ : Mem) (g : Nat → Int32) : o_load w (setc ρ 5 g) = setc (o_load w ρ) 5 g := by
  unfold o_load
  rw [s5_rd (by decide), s5_up (by decide), s5_up (by decide), s5_up (by decide)]
theorem s5_join (w : Nat) (ρ : Mem) (g : Nat → Int32) : o_join w (setc ρ 5 g) = setc (o_join w ρ) 5 g := by
  unfold o_join o_joined o_even
  rw [s5_rd (by decide), s5_rd (by decide), s5_rd (by decide), s5_rd (by decide), s5_up (by decide), s5_up (by decide)]
theorem s5_perform (v : Int32) (ρ : Mem) (g : Nat → Int32) : o_perform v (setc ρ 5 g) = setc (o_perform v ρ) 5 g := by
  unfold o_perform
  rw [s5_rd (show 0 ≠ 5 by decide), s5_load, s5_join]
  unfold o_drive
  rw [s5_rd (show 0 ≠ 5 by decide), s5_up (by decide)]
  split
  · split
    · split
      · rfl
      · rfl
    · rfl
  · rfl
theorem s5_loss (ρ : Mem) (g : Nat → Int32) : ∀ k, o_loss k (setc ρ 5 g) = setc (o_loss k ρ) 5 g
  | 0 => rfl
  | k + 1 => by
    unfold o_loss
    rw [s5_loss ρ g k]
    unfold o_los
    rw [s5_rd (by decide), s5_rd (by decide), s5_rd (by decide), s5_up (by decide), s5_up (by decide)]
theorem s5_tickW (v : Int32) (ρ : Mem) (g : Nat → Int32) : o_tickW v (setc ρ 5 g) = setc (o_tickW v ρ) 5 g := by
  unfold o_tickW o_tickT
  rw [s5_perform, s5_rd (show 0 ≠ 5 by decide), s5_loss, s5_rd (show 0 ≠ 5 by decide), s5_up (by decide)]
theorem runE_5 (fr om : Int32) (ρ : Mem) : ∀ n, o_runE fr om n ρ 5 = ρ 5
  | 0 => rfl
  | n + 1 => by
    rw [o_runE, o_tickW, o_tickT, rd_c (by decide), (St.lp _ _ _).2.2.2.2.2.2.2, runE_5 fr om ρ n]
theorem runE_s5 {W A t : Nat} {ρ : Mem} {g : Nat → Int32} {fr om : Int32} (v : Vd W A t ρ) (H : ∀ r, r < A → g r = if nI r = om then 0 else effA fr 0 (ρ 5 r)) : ∀ k, t + k < 20000 → o_run k (setc ρ 5 g) = setc (o_runE fr om k ρ) 5 g
  | 0, _ => rfl
  | k + 1, hk => by
    have vk := v.runE fr om k (by omega)
    have e5 := runE_5 fr om ρ k
    rw [o_run, runE_s5 v H k (by omega), o_runE, o_tick, s5_tickW]
    congr 2
    obtain ⟨-, -, v3, v4, v5, v6, -, -, v9⟩ := vk
    unfold o_due effT
    rw [s5_rd (show 0 ≠ 5 by decide), s5_5]
    by_cases c : o_runE fr om k ρ 0 7 ≤ 0
    · rw [if_pos c, if_pos c]
    · rw [if_neg c, if_neg c]
      have hA : 0 < A := by
        rcases Nat.eq_zero_or_pos A with z | z
        · rw [v3, z] at c; exact absurd (Int32.le_refl 0) c
        · exact z
      have hl := Nat.mod_lt (t + k) hA
      rw [v3, v5, remI_nI (by omega) hA (by omega), tn_nI (by omega), e5]
      exact H _ hl
theorem goE {W A t x : Nat} {τ ρ : Mem} {post : Int32 → Mem → Prop} (v : Vd W A t ρ) (ht : t < 10000) (s : Sm 0 W A τ ρ (τ 1 37) (τ 1 38)) (hx : x ≤ 200) (h : ∀ τ', Fm 156 τ τ' → post (o_runE (τ 0 14) (τ 0 15) x ρ 0 10) τ') : qX4_ticksGo 0 (nI x) τ post :=
  s4_ticksGo (p := 0) (Or.inl rfl) s v (by omega) (fun τ' _ f _ _ => h τ' f)
theorem omit_H {W A t i : Nat} {ρ : Mem} (v : Vd W A t ρ) (hi : i < A) : ∀ r, r < A → upd (ρ 5) i 0 r = if nI r = nI i then 0 else effA (-4) 0 (ρ 5 r) := by
  intro r hr
  have hA := v.2.2.2.1
  obtain ⟨y, ey, hy⟩ := v.2.2.2.2.2.2.2.2 r hr
  by_cases e : r = i
  · subst e; rw [pk_us, if_pos rfl]
  · rw [pk_un e, if_neg (fun z => e ((nI_eq_iff (by omega) (by omega)).mp z)), ey, effA_4 (by omega)]
theorem h_omit : fp_omit fw_Rel := by
  intro n σ τ a1 a2 hR hn
  have h0 := fr_0 hR
  obtain ⟨W, A, t, v, ht, hW, hA, s, b, w3, w4, x3, x4, h14, h15⟩ := q_get hR
  unfold qX3_omit
  refine s3_asksBest (fun c3 c4 c5 c6 => y1 ?_) (fun c => y0 ?_) (fun c3 c4 c => y0 ?_)
  · have c3' := c3
    have c4' := c4
    obtain ⟨x, -, hx, rfl⟩ := rng_of 0 200 c3 c4 (by decide) (by decide)
    refine s3_doneAsItIs v ht hx (fun σ1 f1 => ?_)
    generalize hf : (fun i => o_run x (up2 (o_zero (rg 1 σ)) 5 i 0) 0 10 : Nat → Int32) = f
    generalize hp : ((-4, o_run x (o_zero (rg 1 σ)) 0 10) : Int32 × Int32) = p
    have hf2 : ∀ i, o_run x (up2 (o_zero (rg 1 σ)) 5 i 0) 0 10 = f i := fun i => by rw [← hf]
    have hf3 : ∀ i, i < A → o_runE (-4) (nI i) x (o_zero (rg 1 σ)) 0 10 = f i := fun i hi => by
      rw [← hf2, up2, runE_s5 v (omit_H v hi) x (by omega), s5_rd (show 0 ≠ 5 by decide)]
    have hp2 : p.2 = o_run x (o_zero (rg 1 σ)) 0 10 := by rw [← hp]
    have hp1 : p.1 = -4 := by rw [← hp]
    have mdl : ∀ σ', Fc 7 σ σ' → qX4_omit (nI x) a2 τ (fun r' τ' => rsl a2 (flN f p A) = r' ∧ fw_Rel (n + 1) σ' τ') := by
      intro σ' f'
      unfold qX4_omit
      refine isLong_t c3' c4' (z1 (in_t (lo := 0) (hi := 1) rfl rfl c5 c6 (y1 (go0 (p := 0) (Or.inl rfl) v ht s h14 h15 (zero12 _) hx (fun τ1 _ g1 _ _ => ?_)))))
      have q1 := g1.q (by decide)
      refine it3_inv A (fun k y3 y4 y5 τ' => y3 = (flN f p k).2 ∧ y4 = (flN f p k).1 ∧ y5 = nI k ∧ Qm τ τ') (fun k hk y3 y4 y5 τ' hI K hK => ?_) (fun y3 y4 y5 τ' hI K => ?_) _ (-4) 0 τ1 ⟨hp2.symm, hp1.symm, nI_0.symm, q1⟩
      · obtain ⟨rfl, rfl, rfl, q⟩ := hI
        unfold qX4_omit_L33
        rw [tl33, q.1 33 (by decide), x4]
        refine ⟨vl33_234, fun r => absurd ((nI_le_iff (by omega) (by omega)).mp r) (by omega), fun _ => ?_⟩
        rintro _ rfl
        have sq : Sm 0 W A (up2 τ' 0 15 (nI k)) (o_zero (rg 1 σ)) (up2 τ' 0 15 (nI k) 1 37) (up2 τ' 0 15 (nI k) 1 38) := by
          rw [rd_cj (by decide), rd_cj (by decide), q.1 37 (by decide), q.1 38 (by decide)]
          exact (s.copy hW hA (fun i hi => q.1 _ (by omega))).up0 15 (nI k)
        refine goE v ht sq hx (fun τ2 g2 => ?_)
        rw [rd_eq, rd_ne (by decide), q.2.2 14 (by decide) (by decide), h14, hf3 k hk]
        rintro _ rfl
        have q4 : Qm τ (up2 τ2 0 15 (-4)) := by
          refine ⟨fun i hi => ?_, fun c h0 h1 h7 => ?_, fun i hi hi2 => ?_⟩
          · rw [rd_cj (by decide), g2.2.2 i (by omega), rd_cj (by decide)]; exact q.1 i hi
          · rw [rd_c h0, g2.1 c h0 h1, rd_c h0]; exact q.2.1 c h0 h1 h7
          · by_cases e : i = 15
            · subst e; rw [rd_eq]; exact h15.symm
            · rw [rd_ne e, g2.2.1 i hi hi2, rd_ne e]; exact q.2.2 i hi hi2
        unfold qX4_omit_B78 qX4_omit_B92
        rw [nI_1]
        refine ⟨fun r => ⟨fun _ => ?_, fun r2 => absurd r r2⟩, fun r => ⟨fun r2 => absurd r2 r, fun _ => ?_⟩⟩
        · rintro _ rfl
          exact hK _ _ _ _ ⟨by rw [flN, stp_le r], by rw [flN, stp_le r], rfl, q4⟩
        · rintro _ rfl
          exact hK _ _ _ _ ⟨by rw [flN, stp_gt r], by rw [flN, stp_gt r], rfl, q4⟩
      · obtain ⟨rfl, rfl, rfl, q⟩ := hI
        unfold qX4_omit_L33 qX4_omit_B110 qX4_omit_B116
        rw [tl33, q.1 33 (by decide), x4]
        refine ⟨vl33_234, fun _ => ⟨fun r => ⟨?_, fr_Q hR f'.q q⟩, fun r => ⟨fun r2 => ⟨?_, fr_Q hR f'.q q⟩, fun r2 => ⟨?_, fr_Q hR f'.q q⟩⟩⟩, fun r => absurd (Int32.le_refl _) r⟩
        · rw [rsl, if_pos r]
        · rw [rsl, if_neg r, if_neg r2]
        · rw [rsl, if_neg r, if_pos r2]
    refine it3_inv A (fun k y3 y4 y5 σ' => y4 = (flN f p k).2 ∧ y3 = (flN f p k).1 ∧ y5 = nI k ∧ Fc 7 σ σ') (fun k hk y3 y4 y5 σ' hI K hK => ?_) (fun y3 y4 y5 σ' hI K => ?_) (-4) _ 0 σ1 ⟨hp2.symm, hp1.symm, nI_0.symm, f1⟩
    · obtain ⟨rfl, rfl, rfl, fc⟩ := hI
      unfold qX3_omit_L23 qX3_omit_B89
      rw [fc 1 (by decide), x3]
      refine ⟨fun r => absurd ((nI_le_iff (by omega) (by omega)).mp r) (by omega), fun _ => ?_⟩
      refine s0_startAs (by decide) (fun σ2 e2 f2 => ⟨in_nI (by omega) (by decide), ?_⟩)
      rw [fc.q.r1] at e2
      rw [tn_nI (by omega), nI_1]
      rintro _ rfl
      have e3 : rg 7 (up2 σ2 12 k 0) = up2 (o_zero (rg 1 σ)) 5 k 0 := by
        rw [rg_up 7 σ2 5 _ _ (rgk_p (by omega)), e2]
      have f3 : Fc 7 σ (up2 σ2 12 k 0) := (fc.tr f2).up (j := 5) (by decide) _ _
      refine s0_runTicks (W := W) (A := A) (t := t) (by rw [e3]; exact v.p (k := 0) (by decide)) (by omega) (fun σ3 e4 f4 => ?_)
      rw [e3] at e4
      have e5 : σ3 7 10 = f k := by rw [← hf2, ← e4]; rfl
      rw [e5]
      refine ⟨fun r2 => ?_, fun r2 => ?_⟩
      · rintro _ rfl
        exact hK _ _ _ _ ⟨by rw [flN, stp_le r2], by rw [flN, stp_le r2], rfl, f3.tr f4⟩
      · rintro _ rfl _ rfl
        exact hK _ _ _ _ ⟨by rw [flN, stp_gt r2], by rw [flN, stp_gt r2], rfl, f3.tr f4⟩
    · obtain ⟨rfl, rfl, rfl, fc⟩ := hI
      unfold qX3_omit_L23 qX3_omit_B105 qX3_omit_B111
      rw [fc 1 (by decide), x3]
      have M := mdl σ' fc
      refine ⟨fun _ => ⟨fun r => ?_, fun r => ⟨fun r2 => ?_, fun r2 => ?_⟩⟩, fun r => absurd (Int32.le_refl _) r⟩
      · rw [rsl, if_pos r] at M; exact M
      · rw [rsl, if_neg r, if_neg r2] at M; exact M
      · rw [rsl, if_neg r, if_pos r2] at M; exact M
  · unfold qX4_omit qX4_omit_B17
    exact isLong_f c (z0 ⟨rfl, h0⟩)
  · unfold qX4_omit qX4_omit_B17
    exact isLong_t c3 c4 (z1 (in_f (lo := 0) (hi := 1) rfl rfl c (y0 ⟨rfl, h0⟩)))
/-- no act joins wheel w -/
def noj (A w : Nat) (g : Nat → Int32) (r : Nat) : Int32 := if r < A ∧ g r = nI (200 + w) then 0 else g r
theorem s0_neverJoin {A w : Nat} {σ : Mem} {post : Mem → Prop} (hA : σ 7 7 = nI A) (hle : A ≤ 16) (h : ∀ σ', rg 7 σ' = setc (rg 7 σ) 5 (noj A w (rg 7 σ 5)) → Fc 7 σ σ' → post σ') : qX0_neverJoin 7 (nI w) σ post := by
  unfold qX0_neverJoin
  refine it1_inv A (fun k y σ' => y = nI k ∧ Fc 7 σ σ' ∧ rg 7 σ' = setc (rg 7 σ) 5 (noj k w (rg 7 σ 5))) (fun k hk y σ' hI K hK => ?_) (fun y σ' hI K => ?_) 0 σ ⟨nI_0.symm, Fc.rf, ?_⟩
  · obtain ⟨rfl, f, e⟩ := hI
    have e7 : σ' 7 7 = nI A := by
      have q : rg 7 σ' 0 7 = rg 7 σ 0 7 := by rw [e, s5_rd (by decide)]
      rw [← hA]
      exact q
    have ek : σ' 12 k = rg 7 σ 5 k := by
      have q : rg 7 σ' 5 k = rg 7 σ 5 k := by rw [e, s5_5, noj, if_neg (by omega)]
      rw [← q, rg_p (by omega)]
    unfold qX0_neverJoin_L2 qX0_neverJoin_B31
    rw [e7, tn_nI (by omega), show (7 + 5 : Nat) = 12 from rfl, ek, show (200 : Int32) = nI 200 from rfl, nI_add, nI_1]
    refine ⟨fun r => absurd ((nI_le_iff (by omega) (by omega)).mp r) (by omega), fun _ => ⟨in_nI (by omega) (by decide), fun r => ?_, fun r => ?_⟩⟩
    · rintro _ rfl
      refine hK _ _ ⟨rfl, f, ?_⟩
      rw [e]
      congr 1
      funext i
      unfold noj
      by_cases ei : i = k
      · subst ei
        rw [if_neg (by omega), if_neg (fun z => r z.2)]
      · by_cases q : i < k ∧ rg 7 σ 5 i = nI (200 + w)
        · rw [if_pos q, if_pos ⟨by omega, q.2⟩]
        · rw [if_neg q, if_neg (fun z => q ⟨by omega, z.2⟩)]
    · rintro _ rfl _ rfl
      refine hK _ _ ⟨rfl, f.up (j := 5) (by decide) _ _, ?_⟩
      rw [rg_up 7 σ' 5 _ _ (rgk_p (by omega)), e]
      funext c i
      rw [rd_if]
      by_cases c5 : c = 5
      · subst c5
        rw [s5_5, s5_5]
        unfold noj
        by_cases ei : i = k
        · subst ei
          rw [if_pos ⟨rfl, rfl⟩, if_pos ⟨by omega, r⟩]
        · rw [if_neg (fun z => ei z.2)]
          by_cases q : i < k ∧ rg 7 σ 5 i = nI (200 + w)
          · rw [if_pos q, if_pos ⟨by omega, q.2⟩]
          · rw [if_neg q, if_neg (fun z => q ⟨by omega, z.2⟩)]
      · rw [if_neg (fun z => c5 z.1), s5_rd c5, s5_rd c5]
  · obtain ⟨rfl, f, e⟩ := hI
    have e7 : σ' 7 7 = nI A := by
      have q : rg 7 σ' 0 7 = rg 7 σ 0 7 := by rw [e, s5_rd (by decide)]
      rw [← hA]
      exact q
    unfold qX0_neverJoin_L2
    rw [e7]
    exact ⟨fun _ => h σ' e f, fun r => absurd (Int32.le_refl _) r⟩
  · funext c i
    by_cases c5 : c = 5
    · subst c5
      rw [s5_5, noj, if_neg (by omega)]
    · rw [s5_rd c5]
theorem off_H {W A t w : Nat} {ρ : Mem} (v : Vd W A t ρ) (hw : w < 4) : ∀ r, r < A → noj A w (ρ 5) r = if nI r = -4 then 0 else effA (nI w) 0 (ρ 5 r) := by
  intro r hr
  have hA := v.2.2.2.1
  obtain ⟨y, ey, hy⟩ := v.2.2.2.2.2.2.2.2 r hr
  rw [if_neg (ne_m4 (by omega)), noj, ey, effA]
  have i1 : (100 : Int32) ≤ nI y ↔ 100 ≤ y := nI_le_iff (a := 100) (by decide) (by omega)
  have i2 : (200 : Int32) ≤ nI y ↔ 200 ≤ y := nI_le_iff (a := 200) (by decide) (by omega)
  by_cases e : y = 200 + w
  · rw [if_pos ⟨hr, by rw [e]⟩, if_pos (i1.mpr (by omega)), if_pos]
    refine ⟨i2.mpr (by omega), ?_⟩
    rw [show (200 : Int32) = nI 200 from rfl, pk_sub (by omega), e, Nat.add_sub_cancel_left]
  · rw [if_neg (fun z => e ((nI_eq_iff (by omega) (by omega)).mp z.2))]
    by_cases c1 : 100 ≤ y
    · rw [if_pos (i1.mpr c1), if_neg]
      rintro ⟨d1, d2⟩
      have d3 := i2.mp d1
      rw [show (200 : Int32) = nI 200 from rfl, pk_sub d3] at d2
      have := (nI_eq_iff (by omega) (by omega)).mp d2
      omega
    · rw [if_neg (fun z => c1 (i1.mp z)), if_pos rfl]
theorem noj_vd {W A t w : Nat} {ρ : Mem} (v : Vd W A t ρ) : Vd W A t (setc ρ 5 (noj A w (ρ 5))) := by
  obtain ⟨v1, v2, v3, v4, v5, v6, v7, v8, v9⟩ := v
  refine ⟨v1, v2, v3, v4, v5, v6, v7, v8, fun i hi => ?_⟩
  rw [s5_5, noj]
  split
  · exact ⟨0, rfl, by decide⟩
  · exact v9 i hi
theorem h_off : fp_off fw_Rel := by
  intro n σ τ a1 a2 hR hn
  have h0 := fr_0 hR
  obtain ⟨W, A, t, v, ht, hW, hA, s, b, w3, w4, x3, x4, h14, h15⟩ := q_get hR
  unfold qX3_off
  refine s3_asksBest (fun c3 c4 c5 c6 => y1 ?_) (fun c => y0 ?_) (fun c3 c4 c => y0 ?_)
  · have c3' := c3
    have c4' := c4
    obtain ⟨x, -, hx, rfl⟩ := rng_of 0 200 c3 c4 (by decide) (by decide)
    refine s3_doneAsItIs v ht hx (fun σ1 f1 => ?_)
    generalize hf : (fun i => o_run x (setc (o_zero (rg 1 σ)) 5 (noj A i (o_zero (rg 1 σ) 5))) 0 10 : Nat → Int32) = f
    generalize hp : ((-4, o_run x (o_zero (rg 1 σ)) 0 10) : Int32 × Int32) = p
    have hf2 : ∀ i, o_run x (setc (o_zero (rg 1 σ)) 5 (noj A i (o_zero (rg 1 σ) 5))) 0 10 = f i := fun i => by rw [← hf]
    have hf3 : ∀ i, i < W → o_runE (nI i) (-4) x (o_zero (rg 1 σ)) 0 10 = f i := fun i hi => by
      rw [← hf2, runE_s5 v (off_H v (by omega)) x (by omega), s5_rd (show 0 ≠ 5 by decide)]
    have hp2 : p.2 = o_run x (o_zero (rg 1 σ)) 0 10 := by rw [← hp]
    have hp1 : p.1 = -4 := by rw [← hp]
    have mdl : ∀ σ', Fc 7 σ σ' → qX4_off (nI x) a2 τ (fun r' τ' => rsl a2 (flN f p W) = r' ∧ fw_Rel (n + 1) σ' τ') := by
      intro σ' f'
      unfold qX4_off
      refine isLong_t c3' c4' (z1 (in_t (lo := 0) (hi := 1) rfl rfl c5 c6 (y1 (go0 (p := 0) (Or.inl rfl) v ht s h14 h15 (zero12 _) hx (fun τ1 _ g1 _ _ => ?_)))))
      have q1 := g1.q (by decide)
      refine it3_inv W (fun k y3 y4 y5 τ' => y3 = (flN f p k).2 ∧ y4 = (flN f p k).1 ∧ y5 = nI k ∧ Qm τ τ') (fun k hk y3 y4 y5 τ' hI K hK => ?_) (fun y3 y4 y5 τ' hI K => ?_) _ (-4) 0 τ1 ⟨hp2.symm, hp1.symm, nI_0.symm, q1⟩
      · obtain ⟨rfl, rfl, rfl, q⟩ := hI
        unfold qX4_off_L33
        rw [tl16, q.1 16 (by decide), w4]
        refine ⟨vl16_234, fun r => absurd ((nI_le_iff (by omega) (by omega)).mp r) (by omega), fun _ => ?_⟩
        rintro _ rfl
        have sq : Sm 0 W A (up2 τ' 0 14 (nI k)) (o_zero (rg 1 σ)) (up2 τ' 0 14 (nI k) 1 37) (up2 τ' 0 14 (nI k) 1 38) := by
          rw [rd_cj (by decide), rd_cj (by decide), q.1 37 (by decide), q.1 38 (by decide)]
          exact (s.copy hW hA (fun i hi => q.1 _ (by omega))).up0 14 (nI k)
        refine goE v ht sq hx (fun τ2 g2 => ?_)
        rw [rd_eq, rd_ne (by decide), q.2.2 15 (by decide) (by decide), h15, hf3 k hk]
        rintro _ rfl
        have q4 : Qm τ (up2 τ2 0 14 (-4)) := by
          refine ⟨fun i hi => ?_, fun c h0 h1 h7 => ?_, fun i hi hi2 => ?_⟩
          · rw [rd_cj (by decide), g2.2.2 i (by omega), rd_cj (by decide)]; exact q.1 i hi
          · rw [rd_c h0, g2.1 c h0 h1, rd_c h0]; exact q.2.1 c h0 h1 h7
          · by_cases e : i = 14
            · subst e; rw [rd_eq]; exact h14.symm
            · rw [rd_ne e, g2.2.1 i hi hi2, rd_ne e]; exact q.2.2 i hi hi2
        unfold qX4_off_B78 qX4_off_B92
        rw [nI_1]
        refine ⟨fun r => ⟨fun _ => ?_, fun r2 => absurd r r2⟩, fun r => ⟨fun r2 => absurd r2 r, fun _ => ?_⟩⟩
        · rintro _ rfl
          exact hK _ _ _ _ ⟨by rw [flN, stp_le r], by rw [flN, stp_le r], rfl, q4⟩
        · rintro _ rfl
          exact hK _ _ _ _ ⟨by rw [flN, stp_gt r], by rw [flN, stp_gt r], rfl, q4⟩
      · obtain ⟨rfl, rfl, rfl, q⟩ := hI
        unfold qX4_off_L33 qX4_off_B110 qX4_off_B116
        rw [tl16, q.1 16 (by decide), w4]
        refine ⟨vl16_234, fun _ => ⟨fun r => ⟨?_, fr_Q hR f'.q q⟩, fun r => ⟨fun r2 => ⟨?_, fr_Q hR f'.q q⟩, fun r2 => ⟨?_, fr_Q hR f'.q q⟩⟩⟩, fun r => absurd (Int32.le_refl _) r⟩
        · rw [rsl, if_pos r]
        · rw [rsl, if_neg r, if_neg r2]
        · rw [rsl, if_neg r, if_pos r2]
    refine it3_inv W (fun k y3 y4 y5 σ' => y4 = (flN f p k).2 ∧ y3 = (flN f p k).1 ∧ y5 = nI k ∧ Fc 7 σ σ') (fun k hk y3 y4 y5 σ' hI K hK => ?_) (fun y3 y4 y5 σ' hI K => ?_) (-4) _ 0 σ1 ⟨hp2.symm, hp1.symm, nI_0.symm, f1⟩
    · obtain ⟨rfl, rfl, rfl, fc⟩ := hI
      unfold qX3_off_L23 qX3_off_B87
      rw [fc 1 (by decide), w3]
      refine ⟨fun r => absurd ((nI_le_iff (by omega) (by omega)).mp r) (by omega), fun _ => ?_⟩
      refine s0_startAs (by decide) (fun σ2 e2 f2 => ?_)
      rw [fc.q.r1] at e2
      rw [nI_1]
      refine s0_neverJoin (A := A) ?_ hA (fun σ4 e3 f3 => ?_)
      · have q : rg 7 σ2 0 7 = o_zero (rg 1 σ) 0 7 := by rw [e2]
        rw [v.2.2.1] at q
        exact q
      rw [e2] at e3
      have f5 := (fc.tr f2).tr f3
      refine s0_runTicks (W := W) (A := A) (t := t) (by rw [e3]; exact noj_vd v) (by omega) (fun σ3 e4 f4 => ?_)
      rw [e3] at e4
      have e5 : σ3 7 10 = f k := by rw [← hf2, ← e4]; rfl
      rw [e5]
      refine ⟨fun r2 => ?_, fun r2 => ?_⟩
      · rintro _ rfl
        exact hK _ _ _ _ ⟨by rw [flN, stp_le r2], by rw [flN, stp_le r2], rfl, f5.tr f4⟩
      · rintro _ rfl _ rfl
        exact hK _ _ _ _ ⟨by rw [flN, stp_gt r2], by rw [flN, stp_gt r2], rfl, f5.tr f4⟩
    · obtain ⟨rfl, rfl, rfl, fc⟩ := hI
      unfold qX3_off_L23 qX3_off_B103 qX3_off_B109
      rw [fc 1 (by decide), w3]
      have M := mdl σ' fc
      refine ⟨fun _ => ⟨fun r => ?_, fun r => ⟨fun r2 => ?_, fun r2 => ?_⟩⟩, fun r => absurd (Int32.le_refl _) r⟩
      · rw [rsl, if_pos r] at M; exact M
      · rw [rsl, if_neg r, if_neg r2] at M; exact M
      · rw [rsl, if_neg r, if_pos r2] at M; exact M
  · unfold qX4_off qX4_off_B17
    exact isLong_f c (z0 ⟨rfl, h0⟩)
  · unfold qX4_off qX4_off_B17
    exact isLong_t c3 c4 (z1 (in_f (lo := 0) (hi := 1) rfl rfl c (y0 ⟨rfl, h0⟩)))
