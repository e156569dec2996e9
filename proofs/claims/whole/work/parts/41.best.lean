/-! PURE, 12: by which mass, of which kind; what a wheel bears; plans by a seed -/
theorem perf_done {W S x D : Nat} {ρ : Mem} (b : Bd W S ρ) (hx : x ≤ 203) (hS : S ≤ 6000000) (h : ρ 0 10 = nI D) : ∃ y, y ≤ D + 99 ∧ o_perform (nI x) ρ 0 10 = nI y := by
  obtain ⟨s, f, h1, h2, h3⟩ := b
  unfold o_perform
  have i1 : (100 : Int32) ≤ nI x ↔ 100 ≤ x := nI_le_iff (a := 100) (by decide) (by omega)
  have i2 : (200 : Int32) ≤ nI x ↔ 200 ≤ x := nI_le_iff (a := 200) (by decide) (by omega)
  by_cases c1 : 100 ≤ x
  · rw [if_pos (i1.mpr c1)]
    by_cases c2 : 200 ≤ x
    · rw [if_pos (i2.mpr c2)]
      split
      · exact ⟨D, by omega, h⟩
      · unfold o_join
        rw [rd_ne (by decide), rd_cj (by decide)]
        exact ⟨D, by omega, h⟩
    · rw [if_neg (fun z => c2 (i2.mp z)), show (100 : Int32) = nI 100 from rfl, pk_sub c1]
      unfold o_load
      rw [rd_ne (by decide), rd_eq, h, h1, iMin_nI (by omega) (by omega), nI_add]
      exact ⟨_, by omega, rfl⟩
  · rw [if_neg (fun z => c1 (i1.mp z))]
    unfold o_drive
    rw [rd_ne (by decide)]
    exact ⟨D, by omega, h⟩
theorem loss_10 (ρ : Mem) : ∀ k, o_loss k ρ 0 10 = ρ 0 10
  | 0 => rfl
  | k + 1 => by
    unfold o_loss o_los
    rw [rd_ne (by decide), rd_cj (by decide), loss_10 ρ k]
theorem loss_11 (ρ : Mem) : ∀ k, o_loss k ρ 0 11 = ρ 0 11
  | 0 => rfl
  | k + 1 => by
    unfold o_loss o_los
    rw [rd_ne (by decide), rd_cj (by decide), loss_11 ρ k]
theorem tickW_done {W S x D : Nat} {ρ : Mem} (b : Bd W S ρ) (hx : x ≤ 203) (hS : S ≤ 6000000) (h : ρ 0 10 = nI D) : ∃ y, y ≤ D + 99 ∧ o_tickW (nI x) ρ 0 10 = nI y := by
  unfold o_tickW o_tickT
  rw [rd_ne (by decide), loss_10]
  exact perf_done b hx hS h
theorem run_done {W A t S : Nat} {ρ : Mem} (b : Bd W S ρ) (v : Vd W A t ρ) (h : ρ 0 10 = 0) : ∀ k, t + k < 20000 → S + 99 * k ≤ 6000000 → ∃ y, y ≤ 99 * k ∧ o_run k ρ 0 10 = nI y
  | 0, _, _ => ⟨0, by omega, h⟩
  | k + 1, h1, h2 => by
    obtain ⟨y, hy, ey⟩ := run_done b v h k (by omega) (by omega)
    obtain ⟨x, ex, hx⟩ := due_nI (v.run k (by omega))
    obtain ⟨z, hz, ez⟩ := tickW_done (b.run v k (by omega) (by omega)) hx (by omega) ey
    refine ⟨z, by omega, ?_⟩
    rw [o_run, o_tick, ex]
    exact ez
def bV (f : Nat → Int32) (lo : Nat) : Nat → Int32
  | 0 => -1
  | k + 1 => if f (lo + k) ≤ bV f lo k then bV f lo k else f (lo + k)
def bA (f : Nat → Int32) (lo : Nat) (a : Int32) : Nat → Int32
  | 0 => a
  | k + 1 => if f (lo + k) ≤ bV f lo k then bA f lo a k else nI (lo + k)
theorem bA_eq {f : Nat → Int32} {lo : Nat} (h : ¬ f lo ≤ -1) (a a' : Int32) : ∀ k, bA f lo a (k + 1) = bA f lo a' (k + 1)
  | 0 => by
    unfold bA bV
    rw [Nat.add_zero, if_neg h, if_neg h]
  | k + 1 => by
    have ih := bA_eq h a a' k
    show (if f (lo + (k + 1)) ≤ bV f lo (k + 1) then bA f lo a (k + 1) else nI (lo + (k + 1))) = (if f (lo + (k + 1)) ≤ bV f lo (k + 1) then bA f lo a' (k + 1) else nI (lo + (k + 1)))
    rw [ih]
def Pp (W A idx c w : Nat) (ρ : Mem) (d l : Int32) (τ' : Mem) : Prop := ∀ y, Sm 195 W A (up2 τ' 1 (195 + idx) y) (up2 ρ c w y) d l
theorem Pp.init {W A idx c w : Nat} {ρ τ : Mem} {d l : Int32} (s : Sm 195 W A τ ρ d l) (hW : W ≤ 4) (hA : A ≤ 16) (hc : 1 ≤ c) (hc4 : c ≤ 4) (hw : w < 4) (hi : idx = 4 * (c - 1) + w) : Pp W A idx c w ρ d l τ := by
  intro y
  have := s.arr hW hA (j := c - 1) (w := w) (by omega) hw y
  rw [show c - 1 + 1 = c by omega, show 195 + 4 * (c - 1) + w = 195 + idx by omega] at this
  exact this
theorem Pp.set {W A idx c w : Nat} {ρ τ : Mem} {d l : Int32} (s : Pp W A idx c w ρ d l τ) (x : Int32) : Pp W A idx c w ρ d l (up2 τ 1 (195 + idx) x) := by
  intro y
  rw [up2_up2]
  exact s y
theorem Pp.fm {W A idx c w : Nat} {ρ τ τ' : Mem} {d l : Int32} (s : Pp W A idx c w ρ d l τ) (hW : W ≤ 4) (hA : A ≤ 16) (f : Fm 156 τ τ') : Pp W A idx c w ρ d l τ' := by
  intro y
  refine (s y).copy hW hA (fun k hk => up_eq y (f.2.2 _ (by omega)) (by omega))
theorem up_c0 (ρ : Mem) {c w : Nat} (y : Int32) (hc : 1 ≤ c) : up2 ρ c w y 0 = ρ 0 := rd_c (by omega)
theorem goP {W A t idx c w x : Nat} {ρ τ τ' : Mem} {y : Int32} {post : Int32 → Mem → Prop} (P : Pp W A idx c w ρ (τ 1 37) (τ 1 38) τ') (hidx : idx < 39) (q : Qm τ τ') (hc : 1 ≤ c) (v : Vd W A t (up2 ρ c w y)) (ht : t < 10000) (h14 : τ 0 14 = -4) (h15 : τ 0 15 = -4) (z : ρ 0 12 = 0) (hx : x ≤ 200) (h : ∀ τ2, Sm 156 W A τ2 (o_run x (up2 ρ c w y)) (τ 1 37) (τ 1 38) → Pp W A idx c w ρ (τ 1 37) (τ 1 38) τ2 → Qm τ τ2 → post (o_run x (up2 ρ c w y) 0 10) τ2) : qX4_ticksGo 195 (nI x) (up2 τ' 1 (195 + idx) y) post := by
  have e37 : up2 τ' 1 (195 + idx) y 1 37 = τ 1 37 := by rw [rd_ne (by omega)]; exact q.1 37 (by decide)
  have e38 : up2 τ' 1 (195 + idx) y 1 38 = τ 1 38 := by rw [rd_ne (by omega)]; exact q.1 38 (by decide)
  refine go0 (p := 195) (Or.inr rfl) v ht ?_ ?_ ?_ ?_ hx (fun τ2 s2 f2 _ _ => ?_)
  · rw [e37, e38]; exact P y
  · rw [rd_cj (by decide), q.2.2 14 (by decide) (by decide)]; exact h14
  · rw [rd_cj (by decide), q.2.2 15 (by decide) (by decide)]; exact h15
  · rw [up_c0 ρ y hc]; exact z
  · rw [e37, e38] at s2
    refine h τ2 s2 ((P.set y).fm v.2.1 v.2.2.2.1 f2) (q.tr (Qm.tr ⟨fun k hk => rd_ne (by omega), fun c _ h1 _ => rd_c h1, fun k _ _ => rd_cj (by decide)⟩ (f2.q (by decide))))
theorem copy195 {W A : Nat} {τ ρ : Mem} {d l : Int32} {post : Mem → Prop} (hW : W ≤ 4) (hA : A ≤ 16) (s : Sm 0 W A τ ρ d l) (h : ∀ τ', Sm 195 W A τ' ρ d l → Fm 195 τ τ' → post τ') : qX4_copies 0 195 τ post :=
  s4_copies (p := 0) (q := 195) (by decide) (by decide) (by decide) (fun τ' e1 e2 e3 => h τ' (s.copy hW hA e1) ⟨fun c _ h1 => e3 c h1, fun k _ _ => by rw [e3 0 (by decide)], fun k hk => e2 k hk⟩)
theorem s4_mostAt {W A t idx c w x lo m : Nat} {a5 : Int32} {ρ τ : Mem} {post : Int32 → Mem → Prop} (hc : 1 ≤ c) (hc4 : c ≤ 4) (hw : w < 4) (hi : idx = 4 * (c - 1) + w) (hW : W ≤ 4) (hA : A ≤ 16) (s : Sm 0 W A τ ρ (τ 1 37) (τ 1 38)) (v : ∀ j, lo ≤ j → j < lo + m → Vd W A t (up2 ρ c w (nI j))) (ht : t < 10000) (h14 : τ 0 14 = -4) (h15 : τ 0 15 = -4) (z : ρ 0 12 = 0) (hx : x ≤ 200) (hm : lo + m < 100) (hm0 : 0 < m) (h : ∀ τ', Qm τ τ' → post (if a5 = 0 then bA (fun j => o_run x (up2 ρ c w (nI j)) 0 10) lo (nI lo) m else bV (fun j => o_run x (up2 ρ c w (nI j)) 0 10) lo m) τ') : qX4_mostAt (nI idx) (nI lo) (nI (lo + m - 1)) (nI x) a5 τ post := by
  unfold qX4_mostAt
  refine copy195 hW hA s (fun τ1 s1 g1 => ?_)
  refine it3_inv m (fun k y6 y7 y8 τ' => y6 = bV (fun j => o_run x (up2 ρ c w (nI j)) 0 10) lo k ∧ y7 = bA (fun j => o_run x (up2 ρ c w (nI j)) 0 10) lo (nI lo) k ∧ y8 = nI (lo + k) ∧ Pp W A idx c w ρ (τ 1 37) (τ 1 38) τ' ∧ Qm τ τ') (fun k hk y6 y7 y8 τ' hI K hK => ?_) (fun y6 y7 y8 τ' hI K => ?_) (-1) (nI lo) (nI lo) τ1 ⟨rfl, rfl, rfl, Pp.init s1 hW hA hc hc4 hw hi, g1.q (by decide)⟩
  · obtain ⟨rfl, rfl, rfl, P, q⟩ := hI
    unfold qX4_mostAt_L17
    rw [jx195, tn_nI (by omega)]
    refine ⟨fun r => absurd ((nI_lt_iff (by omega) (by omega)).mp r) (by omega), fun _ => ⟨in_nI (by omega) (by decide), ?_⟩⟩
    rintro _ rfl
    refine goP P (by omega) q hc (v (lo + k) (by omega) (by omega)) ht h14 h15 z hx (fun τ2 s2 P2 q2 => ?_)
    unfold qX4_mostAt_B60 qX4_mostAt_B76
    have e8 : nI (lo + k) + 1 = nI (lo + (k + 1)) := nI_1 _
    rw [e8]
    refine ⟨fun r => ⟨fun _ => ?_, fun r2 => absurd r r2⟩, fun r => ⟨fun r2 => absurd r2 r, fun _ => ?_⟩⟩
    · rintro _ rfl
      exact hK _ _ _ _ ⟨by rw [bV, if_pos r], by rw [bA, if_pos r], rfl, P2, q2⟩
    · rintro _ rfl
      exact hK _ _ _ _ ⟨by rw [bV, if_neg r], by rw [bA, if_neg r], rfl, P2, q2⟩
  · obtain ⟨rfl, rfl, rfl, P, q⟩ := hI
    unfold qX4_mostAt_L17 qX4_mostAt_B96
    have := h τ' q
    refine ⟨fun _ => ⟨fun r => ?_, fun r => ?_⟩, fun r => absurd ((nI_lt_iff (by omega) (by omega)).mpr (by omega)) r⟩
    · rw [if_neg r] at this; exact this
    · rw [if_pos r] at this; exact this
theorem s3_asksBest {a0 a1 : Int32} {σ : Mem} {post : Int32 → Mem → Prop} (h1 : ¬ a0 < 0 → ¬ 200 < a0 → ¬ a1 < 0 → ¬ 1 < a1 → post 1 σ) (hl : (a0 < 0 ∨ 200 < a0) → post 0 σ) (hr : ¬ a0 < 0 → ¬ 200 < a0 → (a1 < 0 ∨ 1 < a1) → post 0 σ) : qX3_asksBest a0 a1 σ post := by
  unfold qX3_asksBest qX3_asksBest_B24 qX3_asksBest_B25
  exact s3_within (fun c1 c2 => z1 (s3_within (fun c3 c4 => z1 ⟨isB_1, h1 c1 c2 c3 c4⟩) (fun c => z0 ⟨isB_0, hr c1 c2 c⟩))) (fun c => z0 ⟨isB_0, hl c⟩)
theorem val_pos {W A t n c w x : Nat} {ρ : Mem} {y : Int32} (hc : 1 ≤ c) (hc3 : c ≤ 3) (b : Bd W (10000 * n) ρ) (hn : n < 512) (v : Vd W A t (up2 ρ c w y)) (ht : t < 10000) (z : ρ 0 10 = 0) (hx : x ≤ 200) : ¬ o_run x (up2 ρ c w y) 0 10 ≤ -1 := by
  have b' : Bd W (10000 * n) (up2 ρ c w y) := b.fr (by rw [up_c0 ρ y hc]) (rd_c (by omega))
  obtain ⟨d, hd, ed⟩ := run_done b' v (by rw [up_c0 ρ y hc]; exact z) x (by omega) (by omega)
  rw [ed, i32_nle, i32_lt, nI_toInt (by omega)]
  have : (-1 : Int32).toInt = -1 := rfl
  omega
theorem zero10 (ρ : Mem) : o_zero ρ 0 10 = 0 := by rw [o_zero, rd_ne (by decide), rd_ne (by decide), rd_eq]
theorem h_mass : fp_mass fw_Rel := by
  intro n σ τ a1 a2 a3 hR hn
  have h0 := fr_0 hR
  obtain ⟨W, A, t, v, ht, hW, hA, s, b, w3, w4, -, -, h14, h15⟩ := q_get hR
  unfold qX3_mass qX3_mass_B19
  refine s0_hasWheel (fun c1 c2 => z1 ?_) (fun c => z0 ?_)
  · rw [w3] at c2
    have c1' := c1
    have c2' := c2
    obtain ⟨w, hw, rfl⟩ := idx_of c1 c2 (by omega)
    refine s3_asksBest (fun c3 c4 c5 c6 => y1 ?_) (fun c => y0 ?_) (fun c3 c4 c => y0 ?_)
    · have c3' := c3
      have c4' := c4
      obtain ⟨x, -, hx, rfl⟩ := rng_of 0 200 c3 c4 (by decide) (by decide)
      obtain ⟨m, hm⟩ : ∃ m : Nat, m = 19 := ⟨_, rfl⟩
      refine it3_inv (m + 1) (fun k y4 y5 y6 σ' => y5 = bV (fun j => o_run x (up2 (o_zero (rg 1 σ)) 2 w (nI j)) 0 10) 1 k ∧ y4 = bA (fun j => o_run x (up2 (o_zero (rg 1 σ)) 2 w (nI j)) 0 10) 1 0 k ∧ y6 = nI (1 + k) ∧ Fc 7 σ σ') (fun k hk y4 y5 y6 σ' hI K hK => ?_) (fun y4 y5 y6 σ' hI K => ?_) 0 (-1) 1 σ ⟨rfl, rfl, rfl, Fc.rf⟩
      · obtain ⟨rfl, rfl, rfl, f⟩ := hI
        unfold qX3_mass_L30 qX3_mass_B92
        refine ⟨fun r => absurd ((nI_lt_iff (a := 20) (by decide) (by omega)).mp r) (by omega), fun _ => ?_⟩
        refine s0_startAs (by decide) (fun σ1 e1 f1 => ⟨in_nI (by omega) (by decide), ?_⟩)
        rw [f.q.r1] at e1
        rw [tn_nI (by omega)]
        rintro _ rfl
        have e2 : rg 7 (up2 σ1 9 w (nI (1 + k))) = up2 (o_zero (rg 1 σ)) 2 w (nI (1 + k)) := by
          rw [rg_up 7 σ1 2 _ _ (rgk_a (by decide) (by decide) (by omega)), e1]
        refine s0_runTicks (W := W) (A := A) (t := t) (by rw [e2]; exact v.m (by omega) (by omega)) (by omega) (fun σ2 e3 f2 => ?_)
        rw [e2] at e3
        have e4 : σ2 7 10 = o_run x (up2 (o_zero (rg 1 σ)) 2 w (nI (1 + k))) 0 10 := by rw [← e3]; rfl
        have f3 : Fc 7 σ σ2 := (f.tr (f1.tr (Fc.rf.up (b := 7) (j := 2) (by decide) _ _))).tr f2
        have e8 : nI (1 + k) + 1 = nI (1 + (k + 1)) := nI_1 _
        rw [e4, e8]
        refine ⟨fun r => ?_, fun r => ?_⟩
        · rintro _ rfl
          exact hK _ _ _ _ ⟨by rw [bV, if_pos r], by rw [bA, if_pos r], rfl, f3⟩
        · rintro _ rfl _ rfl
          exact hK _ _ _ _ ⟨by rw [bV, if_neg r], by rw [bA, if_neg r], rfl, f3⟩
      · obtain ⟨rfl, rfl, rfl, f⟩ := hI
        unfold qX3_mass_L30 qX3_mass_B109
        have hv : ∀ j, 1 ≤ j → j < 1 + (m + 1) → Vd W A t (up2 (o_zero (rg 1 σ)) 2 w (nI j)) := fun j h1 h2 => v.m h1 (by omega)
        have mdl : ∀ r : Int32, (r = if a3 = 0 then bA (fun j => o_run x (up2 (o_zero (rg 1 σ)) 2 w (nI j)) 0 10) 1 0 (m + 1) else bV (fun j => o_run x (up2 (o_zero (rg 1 σ)) 2 w (nI j)) 0 10) 1 (m + 1)) → qX4_mass (nI w) (nI x) a3 τ (fun r' τ' => r = r' ∧ fw_Rel (n + 1) σ' τ') := by
          intro r hr
          unfold qX4_mass qX4_mass_B41
          rw [jx4, show (20 : Int32) = nI (1 + (m + 1) - 1) by rw [hm]; rfl]
          refine isWheel_t w4 hW c1' c2' (z1 (isLong_t c3' c4' (z1 (in_t (lo := 0) (hi := 1) rfl rfl c5 c6 (z1 (s4_mostAt (c := 2) (w := w) (lo := 1) (m := m + 1) (by decide) (by decide) (by omega) (by omega) hW hA s hv ht h14 h15 (zero12 _) hx (by omega) (by omega) (fun τ' q => ⟨?_, fr_Q hR f.q q⟩)))))))
          rw [hr, bA_eq (f := fun j => o_run x (up2 (o_zero (rg 1 σ)) 2 w (nI j)) 0 10) (lo := 1) (val_pos (by decide) (by decide) b hn (hv 1 (by omega) (by omega)) ht (zero10 _) hx) 0 (nI 1) m]
        refine ⟨fun _ => ⟨fun r => mdl _ ?_, fun r => mdl _ ?_⟩, fun r => absurd ((nI_lt_iff (a := 20) (by decide) (by omega)).mpr (by omega)) r⟩
        · rw [if_neg r]
        · rw [if_pos r]
    · unfold qX4_mass qX4_mass_B40 qX4_mass_B41
      exact isWheel_t w4 hW c1' c2' (z1 (isLong_f c (z0 ⟨rfl, h0⟩)))
    · unfold qX4_mass qX4_mass_B40 qX4_mass_B41
      exact isWheel_t w4 hW c1' c2' (z1 (isLong_t c3 c4 (z1 (in_f (lo := 0) (hi := 1) rfl rfl c (z0 ⟨rfl, h0⟩)))))
  · rw [w3] at c
    unfold qX4_mass qX4_mass_B40 qX4_mass_B41
    exact isWheel_f w4 hW c (z0 ⟨rfl, h0⟩)
theorem h_kind : fp_kind fw_Rel := by
  intro n σ τ a1 a2 a3 hR hn
  have h0 := fr_0 hR
  obtain ⟨W, A, t, v, ht, hW, hA, s, b, w3, w4, -, -, h14, h15⟩ := q_get hR
  unfold qX3_kind qX3_kind_B19
  refine s0_hasWheel (fun c1 c2 => z1 ?_) (fun c => z0 ?_)
  · rw [w3] at c2
    have c1' := c1
    have c2' := c2
    obtain ⟨w, hw, rfl⟩ := idx_of c1 c2 (by omega)
    refine s3_asksBest (fun c3 c4 c5 c6 => y1 ?_) (fun c => y0 ?_) (fun c3 c4 c => y0 ?_)
    · have c3' := c3
      have c4' := c4
      obtain ⟨x, -, hx, rfl⟩ := rng_of 0 200 c3 c4 (by decide) (by decide)
      obtain ⟨m, hm⟩ : ∃ m : Nat, m = 3 := ⟨_, rfl⟩
      refine it3_inv (m + 1) (fun k y4 y5 y6 σ' => y5 = bV (fun j => o_run x (up2 (o_zero (rg 1 σ)) 1 w (nI j)) 0 10) 0 k ∧ y4 = bA (fun j => o_run x (up2 (o_zero (rg 1 σ)) 1 w (nI j)) 0 10) 0 0 k ∧ y6 = nI (0 + k) ∧ Fc 7 σ σ') (fun k hk y4 y5 y6 σ' hI K hK => ?_) (fun y4 y5 y6 σ' hI K => ?_) 0 (-1) 0 σ ⟨rfl, rfl, rfl, Fc.rf⟩
      · obtain ⟨rfl, rfl, rfl, f⟩ := hI
        unfold qX3_kind_L30 qX3_kind_B91
        refine ⟨fun r => absurd ((nI_lt_iff (a := 3) (by decide) (by omega)).mp r) (by omega), fun _ => ?_⟩
        refine s0_startAs (by decide) (fun σ1 e1 f1 => ⟨in_nI (by omega) (by decide), ?_⟩)
        rw [f.q.r1] at e1
        rw [tn_nI (show w < 2147483648 by omega)]
        rintro _ rfl
        have e2 : rg 7 (up2 σ1 8 w (nI (0 + k))) = up2 (o_zero (rg 1 σ)) 1 w (nI (0 + k)) := by
          rw [rg_up 7 σ1 1 _ _ (rgk_a (by decide) (by decide) (by omega)), e1]
        refine s0_runTicks (W := W) (A := A) (t := t) (by rw [e2]; exact v.k (by omega)) (by omega) (fun σ2 e3 f2 => ?_)
        rw [e2] at e3
        have e4 : σ2 7 10 = o_run x (up2 (o_zero (rg 1 σ)) 1 w (nI (0 + k))) 0 10 := by rw [← e3]; rfl
        have f3 : Fc 7 σ σ2 := (f.tr (f1.tr (Fc.rf.up (b := 7) (j := 1) (by decide) _ _))).tr f2
        have e8 : nI (0 + k) + 1 = nI (0 + (k + 1)) := nI_1 _
        rw [e4, e8]
        refine ⟨fun r => ?_, fun r => ?_⟩
        · rintro _ rfl
          exact hK _ _ _ _ ⟨by rw [bV, if_pos r], by rw [bA, if_pos r], rfl, f3⟩
        · rintro _ rfl _ rfl
          exact hK _ _ _ _ ⟨by rw [bV, if_neg r], by rw [bA, if_neg r], rfl, f3⟩
      · obtain ⟨rfl, rfl, rfl, f⟩ := hI
        unfold qX3_kind_L30 qX3_kind_B108
        have hv : ∀ j, 0 ≤ j → j < 0 + (m + 1) → Vd W A t (up2 (o_zero (rg 1 σ)) 1 w (nI j)) := fun j h1 h2 => v.k (by omega)
        have mdl : ∀ r : Int32, (r = if a3 = 0 then bA (fun j => o_run x (up2 (o_zero (rg 1 σ)) 1 w (nI j)) 0 10) 0 0 (m + 1) else bV (fun j => o_run x (up2 (o_zero (rg 1 σ)) 1 w (nI j)) 0 10) 0 (m + 1)) → qX4_kind (nI w) (nI x) a3 τ (fun r' τ' => r = r' ∧ fw_Rel (n + 1) σ' τ') := by
          intro r hr
          unfold qX4_kind qX4_kind_B38
          rw [show (3 : Int32) = nI (0 + (m + 1) - 1) by rw [hm]; rfl]
          exact isWheel_t w4 hW c1' c2' (z1 (isLong_t c3' c4' (z1 (in_t (lo := 0) (hi := 1) rfl rfl c5 c6 (z1 (s4_mostAt (c := 1) (w := w) (lo := 0) (m := m + 1) (by decide) (by decide) (by omega) (by omega) hW hA s hv ht h14 h15 (zero12 _) hx (by omega) (by omega) (fun τ' q => ⟨hr, fr_Q hR f.q q⟩)))))))
        refine ⟨fun _ => ⟨fun r => mdl _ ?_, fun r => mdl _ ?_⟩, fun r => absurd ((nI_lt_iff (a := 3) (by decide) (by omega)).mpr (by omega)) r⟩
        · rw [if_neg r]
        · rw [if_pos r]
    · unfold qX4_kind qX4_kind_B37 qX4_kind_B38
      exact isWheel_t w4 hW c1' c2' (z1 (isLong_f c (z0 ⟨rfl, h0⟩)))
    · unfold qX4_kind qX4_kind_B37 qX4_kind_B38
      exact isWheel_t w4 hW c1' c2' (z1 (isLong_t c3 c4 (z1 (in_f (lo := 0) (hi := 1) rfl rfl c (z0 ⟨rfl, h0⟩)))))
  · rw [w3] at c
    unfold qX4_kind qX4_kind_B37 qX4_kind_B38
    exact isWheel_f w4 hW c (z0 ⟨rfl, h0⟩)
theorem h_bears : fp_bears fw_Rel := by
  intro n σ τ a1 a2 hR hn
  have h0 := fr_0 hR
  obtain ⟨W, A, t, v, ht, hW, hA, s, b, w3, w4, -, -, h14, h15⟩ := q_get hR
  unfold qX3_bears qX3_bears_B22
  refine s0_hasWheel (fun c1 c2 => z1 ?_) (fun c => z0 ?_)
  · rw [w3] at c2
    have c1' := c1
    have c2' := c2
    obtain ⟨w, hw, rfl⟩ := idx_of c1 c2 (by omega)
    refine s3_within (fun c3 c4 => y1 ?_) (fun c => y0 ?_)
    · have c3' := c3
      have c4' := c4
      obtain ⟨x, -, hx, rfl⟩ := rng_of 0 200 c3 c4 (by decide) (by decide)
      have mdl : ∀ (k : Nat) (σ' : Mem), k ≤ 10 → Fc 7 σ σ' → (∀ j, j < k → ¬ o_run x (up2 (o_zero (rg 1 σ)) 3 w (nI (9 - j))) 0 11 = 0) → (k ≤ 9 → o_run x (up2 (o_zero (rg 1 σ)) 3 w (nI (9 - k))) 0 11 = 0) → qX4_bears (nI w) (nI x) τ (fun r' τ' => (if k = 10 then -4 else nI (9 - k)) = r' ∧ fw_Rel (n + 1) σ' τ') := by
        intro k σ' hk f hj hz
        unfold qX4_bears
        refine isWheel_t w4 hW c1' c2' (z1 (isLong_t c3' c4' (y1 (copy195 hW hA s (fun τ1 s1 g1 => ?_)))))
        refine it1_inv k (fun i y τ' => (y = if i = 10 then -1 else nI (9 - i)) ∧ Pp W A (8 + w) 3 w (o_zero (rg 1 σ)) (τ 1 37) (τ 1 38) τ' ∧ Qm τ τ') (fun i hi y τ' hI K hK => ?_) (fun y τ' hI K => ?_) 9 τ1 ⟨rfl, Pp.init s1 hW hA (by decide) (by decide) (by omega) (by omega), g1.q (by decide)⟩
        · obtain ⟨rfl, P, q⟩ := hI
          rw [if_neg (show ¬ i = 10 by omega)]
          unfold qX4_bears_L28
          rw [jx203, tn_nI (by omega), show 203 + w = 195 + (8 + w) by omega]
          refine ⟨fun r => absurd r (nI_pos (by omega)), fun _ => ⟨in_nI (by omega) (by decide), ?_⟩⟩
          rintro _ rfl
          refine goP P (by omega) q (by decide) (v.l (by omega)) ht h14 h15 (zero12 _) hx (fun τ2 s2 P2 q2 => ?_)
          refine s4_lackThen (τ := τ) s2 (q2.1 38 (by decide)) ⟨fun _ => ?_, fun r => absurd r (hj i hi)⟩
          rintro _ rfl
          refine hK _ _ ⟨?_, P2, q2⟩
          by_cases e : i + 1 = 10
          · rw [if_pos e, show 9 - i = 0 by omega]; rfl
          · rw [if_neg e, show 9 - i = (9 - (i + 1)) + 1 by omega, pk_m1]
        · obtain ⟨rfl, P, q⟩ := hI
          unfold qX4_bears_L28
          by_cases e : k = 10
          · rw [if_pos e, if_pos e]
            exact ⟨fun _ => ⟨rfl, fr_Q hR f.q q⟩, fun r => absurd (by decide) r⟩
          · rw [if_neg e, if_neg e, jx203, tn_nI (by omega), show 203 + w = 195 + (8 + w) by omega]
            refine ⟨fun r => absurd r (nI_pos (by omega)), fun _ => ⟨in_nI (by omega) (by decide), ?_⟩⟩
            rintro _ rfl
            refine goP P (by omega) q (by decide) (v.l (by omega)) ht h14 h15 (zero12 _) hx (fun τ2 s2 P2 q2 => ?_)
            exact s4_lackThen (τ := τ) s2 (q2.1 38 (by decide)) ⟨fun r => absurd (hz (by omega)) r, fun _ => ⟨rfl, fr_Q hR f.q q2⟩⟩
      refine it1_inv 10 (fun i y σ' => (y = if i = 10 then -1 else nI (9 - i)) ∧ Fc 7 σ σ' ∧ (∀ j, j < i → ¬ o_run x (up2 (o_zero (rg 1 σ)) 3 w (nI (9 - j))) 0 11 = 0)) (fun i hi y σ' hI K hK => ?_) (fun y σ' hI K => ?_) 9 σ ⟨rfl, Fc.rf, fun j hj => absurd hj (Nat.not_lt_zero j)⟩
      · obtain ⟨rfl, f, hj⟩ := hI
        rw [if_neg (show ¬ i = 10 by omega)]
        unfold qX3_bears_L27
        refine ⟨fun r => absurd r (nI_pos (by omega)), fun _ => ?_⟩
        refine s0_startAs (by decide) (fun σ1 e1 f1 => ⟨in_nI (by omega) (by decide), ?_⟩)
        rw [f.q.r1] at e1
        rw [tn_nI (show w < 2147483648 by omega)]
        rintro _ rfl
        have e2 : rg 7 (up2 σ1 10 w (nI (9 - i))) = up2 (o_zero (rg 1 σ)) 3 w (nI (9 - i)) := by
          rw [rg_up 7 σ1 3 _ _ (rgk_a (by decide) (by decide) (by omega)), e1]
        refine s0_runTicks (W := W) (A := A) (t := t) (by rw [e2]; exact v.l (by omega)) (by omega) (fun σ2 e3 f2 => ?_)
        rw [e2] at e3
        have e4 : σ2 7 11 = o_run x (up2 (o_zero (rg 1 σ)) 3 w (nI (9 - i))) 0 11 := by rw [← e3]; rfl
        have f3 : Fc 7 σ σ2 := (f.tr (f1.tr (Fc.rf.up (b := 7) (j := 3) (by decide) _ _))).tr f2
        rw [e4]
        refine ⟨fun r => ?_, fun r => ?_⟩
        · rintro _ rfl
          refine hK _ _ ⟨?_, f3, fun j hj2 => ?_⟩
          · by_cases e : i + 1 = 10
            · rw [if_pos e, show 9 - i = 0 by omega]; rfl
            · rw [if_neg e, show 9 - i = (9 - (i + 1)) + 1 by omega, pk_m1]
          · by_cases e : j = i
            · subst e; exact r
            · exact hj j (by omega)
        · have := mdl i σ2 (by omega) f3 hj (fun _ => r)
          rw [if_neg (by omega)] at this
          exact this
      · obtain ⟨rfl, f, hj⟩ := hI
        unfold qX3_bears_L27
        refine ⟨fun _ => ?_, fun r => absurd (by decide) r⟩
        have := mdl 10 σ' (by omega) f hj (fun q => by omega)
        rw [if_pos rfl] at this
        exact this
    · unfold qX4_bears qX4_bears_B15
      exact isWheel_t w4 hW c1' c2' (z1 (isLong_f c (y0 ⟨rfl, h0⟩)))
  · rw [w3] at c
    unfold qX4_bears qX4_bears_B15
    exact isWheel_f w4 hW c (z0 ⟨rfl, h0⟩)
/-- the seed's way -/
def sdN (a : Int32) : Nat → Int32
  | 0 => a
  | k + 1 => sdN a k * 1103515245 + 12345
def sdA (y : Int32) : Int32 := ((y.toUInt32 >>> ((16 : Int32).toUInt32 &&& Int32.toUInt32 31)).toInt32 &&& 32767) - ((y.toUInt32 >>> ((16 : Int32).toUInt32 &&& Int32.toUInt32 31)).toInt32 &&& 32767) / 204 * 204
def o_sd (a : Int32) : Nat → Mem → Mem
  | 0, ρ => ρ
  | k + 1, ρ => o_tickW (sdA (sdN a k * 1103515245 + 12345)) (o_sd a k ρ)
theorem sd_nI (y : Int32) : ∃ z, z ≤ 203 ∧ sdA y = nI z := by
  unfold sdA
  obtain ⟨j, hj, e⟩ := pk_andE ((y.toUInt32 >>> ((16 : Int32).toUInt32 &&& Int32.toUInt32 31)).toInt32) (m := 32767) 15 (by decide)
  rw [e, show (204 : Int32) = nI 204 from rfl, pk_rem (by omega) (by decide) (by decide)]
  exact ⟨_, by have := Nat.mod_lt j (show 204 > 0 by decide); omega, rfl⟩
theorem sd_act (y : Int32) : ((y.toUInt32 >>> ((16 : Int32).toUInt32 &&& Int32.toUInt32 31)).toInt32 &&& 32767) - ((y.toUInt32 >>> ((16 : Int32).toUInt32 &&& Int32.toUInt32 31)).toInt32 &&& 32767) / 204 * 204 = sdA y := rfl
theorem sd_mask (y : Int32) : (y >>> ((16 : Int32) &&& 31)) &&& 32767 = (y.toUInt32 >>> ((16 : Int32).toUInt32 &&& Int32.toUInt32 31)).toInt32 &&& 32767 := by
  rw [pk_and _ (m := 32767) 15 (by decide), pk_and _ (m := 32767) 15 (by decide), pk_ushr y 16 16 (by decide)]
  congr 1
  have h1 : (y >>> ((16 : Int32) &&& 31)).toInt = y.toInt >>> 16 := pk_shr y _ 16 (by decide)
  have h2 : (y >>> ((16 : Int32) &&& 31)).toInt = (y >>> ((16 : Int32) &&& 31)).toBitVec.toInt := rfl
  have h3 : y.toInt = y.toBitVec.toInt := rfl
  rw [h2, h3, BitVec.toInt_eq_toNat_cond, BitVec.toInt_eq_toNat_cond, Int.shiftRight_eq_div_pow] at h1
  have h4 := y.toBitVec.isLt
  have h5 := (y >>> ((16 : Int32) &&& 31)).toBitVec.isLt
  generalize y.toBitVec.toNat = u at *
  generalize (y >>> ((16 : Int32) &&& 31)).toBitVec.toNat = w at *
  revert h1
  split <;> split <;> intro h1 <;> omega
theorem sd_act2 (y : Int32) : ((y >>> ((16 : Int32) &&& 31)) &&& 32767) - ((y >>> ((16 : Int32) &&& 31)) &&& 32767) / 204 * 204 = sdA y := by
  rw [sd_mask]
  rfl
theorem sd_vd {W A t : Nat} {ρ : Mem} (v : Vd W A t ρ) (a : Int32) : ∀ k, t + k < 20000 → Vd W A (t + k) (o_sd a k ρ)
  | 0, _ => v
  | k + 1, h => (sd_vd v a k (by omega)).tickW _ (by omega)
theorem h_drift : fp_drift fw_Rel := by
  intro n σ τ a1 a2 a3 hR hn
  have h0 := fr_0 hR
  obtain ⟨W, A, t, v, ht, hW, hA, s, b, w3, w4, -, -, h14, h15⟩ := q_get hR
  unfold qX3_drift qX3_drift_B20
  refine s3_within (fun c1 c2 => z1 ?_) (fun c => z0 ?_)
  · refine s3_within (fun c3 c4 => y1 ?_) (fun c => y0 ?_)
    · rw [w3]
      have c1' := c1
      have c2' := c2
      obtain ⟨x, hx1, hx, rfl⟩ := rng_of 1 200 c1 c2 (by decide) (by decide)
      refine ⟨fun c5 => ?_, fun c5 => ?_⟩
      · refine s0_startAs (by decide) (fun σ1 e1 f1 => ?_)
        refine it2_inv x (fun k y4 y5 σ' => y4 = sdN a1 k ∧ y5 = nI k ∧ rg 7 σ' = o_sd a1 k (o_zero (rg 1 σ)) ∧ Fc 7 σ σ') (fun k hk y4 y5 σ' hI K hK => ?_) (fun y4 y5 σ' hI K => ?_) a1 0 σ1 ⟨rfl, nI_0.symm, e1, f1⟩
        · obtain ⟨rfl, rfl, e2, f2⟩ := hI
          unfold qX3_drift_L52
          refine ⟨fun r => absurd ((nI_le_iff (by omega) (by omega)).mp r) (by omega), fun _ => ?_⟩
          rintro _ rfl _ rfl
          refine ⟨by decide, ?_⟩
          have vk := sd_vd v a1 k (by omega)
          refine s0_passTickWith (W := W) (by have q := vk.1; rw [← e2] at q; exact q) hW (fun σ3 e3 f3 => ?_)
          rintro _ rfl
          refine hK _ _ _ ⟨rfl, nI_1 k, ?_, f2.tr f3⟩
          rw [e3, e2, o_sd, sd_act]
        · obtain ⟨rfl, rfl, e2, f2⟩ := hI
          unfold qX3_drift_L52 qX3_drift_B120
          have vx := sd_vd v a1 x (by omega)
          have hw7 : σ' 7 2 = nI W := by
            have q := vx.1
            rw [← e2] at q
            exact q
          have mdl : ∀ r : Int32, (r = if a3 = 0 then o_sd a1 x (o_zero (rg 1 σ)) 0 10 else o_sd a1 x (o_zero (rg 1 σ)) 0 1 + sumN (o_sd a1 x (o_zero (rg 1 σ)) 4) W) → qX4_drift a1 (nI x) a3 τ (fun r' τ' => r = r' ∧ fw_Rel (n + 1) σ' τ') := by
            intro r hr
            unfold qX4_drift
            refine in_t (lo := 1) (hi := 200) rfl rfl c1' c2' (z1 (in_t (lo := 0) (hi := 1) rfl rfl c3 c4 (y1 ?_)))
            rw [tl16, w4]
            refine ⟨vl16_234, fun _ => ?_, fun q => absurd q c5⟩
            refine copy156 hW hA s (fun τ1 s1 g1 => ?_)
            refine it2_inv x (fun k y4 y5 τ' => y4 = sdN a1 k ∧ y5 = nI k ∧ Sm 156 W A τ' (o_sd a1 k (o_zero (rg 1 σ))) (τ 1 37) (τ 1 38) ∧ Fm 156 τ τ') (fun k hk y4 y5 τ' hI K hK => ?_) (fun y4 y5 τ' hI K => ?_) a1 0 τ1 ⟨rfl, nI_0.symm, s1, g1⟩
            · obtain ⟨rfl, rfl, s2, g2⟩ := hI
              unfold qX4_drift_L51
              refine ⟨fun r => absurd ((nI_le_iff (by omega) (by omega)).mp r) (by omega), fun _ => ?_⟩
              rintro _ rfl
              refine ⟨by decide, ?_⟩
              obtain ⟨z, hz, ez⟩ := sd_nI (sdN a1 k * 1103515245 + 12345)
              have vk := sd_vd v a1 k (by omega)
              rw [sd_act2, ez]
              refine s4_actOn (p := 156) (by decide) s2 vk hz (fun τ3 s3 g3 _ _ => ?_)
              rw [g2.2.1 14 (by decide) (by decide), h14, effA_4 (by omega)] at s3
              refine s4_lossesOn (p := 156) (by decide) s3 (vk.st (St.perform _ _)) (by omega) (fun τ4 s4 g4 _ _ => ?_)
              rintro _ rfl
              refine hK _ _ _ ⟨rfl, nI_1 k, ?_, (g2.tr g3).tr g4⟩
              rw [o_sd, o_tickW, vk.1, tn_nI (by omega)]
              show Sm 156 W A τ4 (o_tickT (o_loss W (o_perform (sdA (sdN a1 k * 1103515245 + 12345)) _))) _ _
              rw [ez]
              exact s4
            · obtain ⟨rfl, rfl, s2, g2⟩ := hI
              unfold qX4_drift_L51 qX4_drift_B132
              have e193 : τ' 1 193 = o_sd a1 x (o_zero (rg 1 σ)) 0 10 + τ 1 37 := s2.2.2.2.2.2.1
              have e37 : τ' 1 37 = τ 1 37 := g2.2.2 37 (by decide)
              refine ⟨fun _ => ⟨fun q => s4_swingOn (p := 156) (by decide) s2 vx ⟨?_, fr_Q hR f2.q (g2.q (by decide))⟩, fun q => ⟨vl193_234, vl37_234, ?_, fr_Q hR f2.q (g2.q (by decide))⟩⟩, fun q => absurd (Int32.le_refl _) q⟩
              · rw [hr, if_neg q]
              · rw [tl193, tl37, e193, e37, Int32.add_sub_cancel, hr, if_pos q]
          refine ⟨fun _ => ⟨fun q => s0_allSwing hw7 hW (mdl _ ?_), fun q => mdl _ ?_⟩, fun q => absurd (Int32.le_refl _) q⟩
          · rw [if_neg q, ← e2]
          · rw [if_pos q, ← e2]; rfl
      · unfold qX4_drift
        refine in_t (lo := 1) (hi := 200) rfl rfl c1' c2' (z1 (in_t (lo := 0) (hi := 1) rfl rfl c3 c4 (y1 ?_)))
        rw [tl16, w4]
        exact ⟨vl16_234, fun q => absurd c5 q, fun _ => ⟨rfl, h0⟩⟩
    · unfold qX4_drift qX4_drift_B22
      exact in_t (lo := 1) (hi := 200) rfl rfl c1 c2 (z1 (in_f (lo := 0) (hi := 1) rfl rfl c (y0 ⟨rfl, h0⟩)))
  · unfold qX4_drift qX4_drift_B22
    exact in_f (lo := 1) (hi := 200) rfl rfl c (z0 ⟨rfl, h0⟩)
