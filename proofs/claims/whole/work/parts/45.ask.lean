/-! PURE, 16: of which kind, with which loss; when to look next -/
def msk (b : Nat → Bool) : Nat → Int32
  | 0 => 0
  | k + 1 => msk b k ||| (if b k = true then 1 <<< (nI k &&& 31) else 0)
theorem bool_of (F : Nat → Prop) : ∃ b : Nat → Bool, ∀ k, b k = true ↔ F k := by
  refine ⟨fun k => @decide (F k) (Classical.propDecidable _), fun k => ?_⟩
  exact @decide_eq_true_iff (F k) (Classical.propDecidable _)
theorem fits_fr {W sn : Nat} {ρ σ σ' : Mem} (f : Fc 7 σ σ') : fits W sn ρ σ' ↔ fits W sn ρ σ := by
  unfold fits
  rw [f 44 (by decide)]
  exact ⟨fun h i hi => (sok_fr (f 45 (by decide)) (f 46 (by decide))).mp (h i hi), fun h i hi => (sok_fr (f 45 (by decide)) (f 46 (by decide))).mpr (h i hi)⟩
theorem seenOk.fr {sn : Nat} {σ σ' : Mem} (h : seenOk sn σ) (f : Fc 7 σ σ') : seenOk sn σ' := by
  unfold seenOk
  rw [f 0 (by decide), f 44 (by decide), f 45 (by decide)]
  exact h
theorem R5.get {σ τ : Mem} (h : R5 σ τ) : ∃ sn, seenOk sn σ ∧ seenM sn σ τ := by
  obtain ⟨s, h1, h2, h3, h4⟩ := h
  exact ⟨s, ⟨h1, h2, fun i hi => ⟨(h4 i hi).2.2.2.1, (h4 i hi).2.2.2.2⟩⟩, h3, fun i hi => ⟨(h4 i hi).1, (h4 i hi).2.1, (h4 i hi).2.2.1⟩⟩
theorem s4_numbersAt {W A t idx c w m sn : Nat} {b : Nat → Bool} {σ τ ρ : Mem} {post : Int32 → Mem → Prop} (hc : 1 ≤ c) (hc3 : c ≤ 3) (hi : idx = 4 * (c - 1) + w) (hw : w < W) (hW : W ≤ 4) (hA : A ≤ 16) (hm : m ≤ 10) (v : ∀ j, j < m → Vd W A t (up2 ρ c w (nI j))) (ht : t < 10000) (w4 : τ 1 16 = nI W) (h14 : τ 0 14 = -4) (h15 : τ 0 15 = -4) (hs : seenOk sn σ) (hsm : seenM sn σ τ) (s : Sm 0 W A τ ρ (τ 1 37) (τ 1 38)) (hb : ∀ j, j < m → (b j = true ↔ fits W sn (up2 ρ c w (nI j)) σ)) (h : ∀ τ', Qm τ τ' → (∀ j, j < m → ∀ i, i ≤ 40 → τ' 7 (41 * j + i) = o_run i (up2 ρ c w (nI j)) 4 w) → post (msk b m) τ') : qX4_numbersAt (nI idx) (nI w) (nI m) τ post := by
  unfold qX4_numbersAt
  rw [tn_nI (by omega)]
  refine ⟨in_nI (by omega) (by decide), ?_⟩
  rintro _ rfl
  have p0 : ∀ y, Sm 0 W A (up2 τ 1 idx y) (up2 ρ c w y) (τ 1 37) (τ 1 38) := fun y => by
    have := s.arr hW hA (j := c - 1) (w := w) (by omega) (by omega) y
    rw [show c - 1 + 1 = c by omega, show 0 + 4 * (c - 1) + w = idx by omega] at this
    exact this
  refine it3_inv m (fun k y4 y5 y6 τ' => y4 = τ 1 idx ∧ y5 = msk b k ∧ y6 = nI k ∧ (∀ y, Sm 0 W A (up2 τ' 1 idx y) (up2 ρ c w y) (τ 1 37) (τ 1 38)) ∧ (∀ c, c ≠ 0 → c ≠ 1 → c ≠ 7 → τ' c = τ c) ∧ (∀ k, k ≠ 16 → k ≠ 17 → τ' 0 k = τ 0 k) ∧ (∀ i, i < 117 → i ≠ idx → τ' 1 i = τ 1 i) ∧ (∀ j, j < k → ∀ i, i ≤ 40 → τ' 7 (41 * j + i) = o_run i (up2 ρ c w (nI j)) 4 w)) (fun k hk y4 y5 y6 τ' hI K hK => ?_) (fun y4 y5 y6 τ' hI K => ?_) _ 0 0 τ ⟨rfl, rfl, nI_0.symm, p0, fun _ _ _ _ => rfl, fun _ _ _ => rfl, fun _ _ _ => rfl, fun j hj => absurd hj (Nat.not_lt_zero j)⟩
  · obtain ⟨rfl, rfl, rfl, P, f1, f2, f3, g⟩ := hI
    unfold qX4_numbersAt_L14 qX4_numbersAt_B48
    rw [tn_nI (by omega)]
    refine ⟨fun r => absurd ((nI_le_iff (by omega) (by omega)).mp r) (by omega), fun _ => ⟨in_nI (by omega) (by decide), ?_⟩⟩
    rintro _ rfl
    have m1 : seenM sn σ (up2 τ' 1 idx (nI k)) := by
      unfold seenM
      rw [rd_cj (by decide), rd_c (by decide), f2 19 (by decide) (by decide), f1 6 (by decide) (by decide) (by decide)]
      exact hsm
    refine s4_isAsSeen (v k hk) ht hw (by omega) (by rw [rd_ne (by omega), f3 16 (by decide) (by omega)]; exact w4) (by rw [rd_cj (by decide), f2 14 (by decide) (by decide)]; exact h14) (by rw [rd_cj (by decide), f2 15 (by decide) (by decide)]; exact h15) hs m1 (P (nI k)) (fun r τ2 hr fs b1 b2 => ?_)
    have nx : ∀ z : Int32, z = msk b (k + 1) → K (τ 1 idx) z (nI (k + 1)) τ2 := by
      rintro _ rfl
      refine hK _ _ _ _ ⟨rfl, rfl, rfl, fun y => ?_, fun c h0 h1 h7 => ?_, fun i h0 h1 => ?_, fun i h0 h1 => ?_, fun j hj i hi => ?_⟩
      · have := P y
        rw [← up2_up2 τ' 1 idx (nI k) y] at this
        exact this.copy hW hA (fun i hi => up_eq y (fs.2.2 _ (by omega)) (by omega))
      · rw [fs.1 c h0 h1 h7, rd_c h1]; exact f1 c h0 h1 h7
      · rw [fs.2.1 i h0 h1, rd_cj (by decide)]; exact f2 i h0 h1
      · rw [fs.2.2 i (by omega), rd_ne h1]; exact f3 i h0 h1
      · by_cases e : j = k
        · subst e; exact b1 i hi
        · rw [b2 _ (by omega), rd_cj (by decide)]; exact g j (by omega) i hi
    rw [nI_1]
    rcases hr with ⟨rfl, hr⟩ | ⟨rfl, hr⟩
    · refine z1 ?_
      rintro _ rfl _ rfl
      exact nx _ (by rw [msk, if_pos ((hb k hk).mpr hr)])
    · refine z0 ?_
      rintro _ rfl _ rfl
      exact nx _ (by rw [msk, if_neg (fun z => hr ((hb k hk).mp z))])
  · obtain ⟨rfl, rfl, rfl, P, f1, f2, f3, g⟩ := hI
    unfold qX4_numbersAt_L14
    rw [tn_nI (by omega)]
    refine ⟨fun _ => ⟨in_nI (by omega) (by decide), ?_⟩, fun r => absurd (Int32.le_refl _) r⟩
    rintro _ rfl
    refine h _ ⟨fun i hi => ?_, fun c h0 h1 h7 => ?_, fun i h0 h1 => ?_⟩ (fun j hj i hi => ?_)
    · by_cases e : i = idx
      · subst e; exact rd_eq _ _ _ _
      · rw [rd_ne e]; exact f3 i hi e
    · rw [rd_c h1]; exact f1 c h0 h1 h7
    · rw [rd_cj (by decide)]; exact f2 i h0 h1
    · rw [rd_cj (by decide)]; exact g j hj i hi
theorem h_kinds : fp_kinds fw_Rel := by
  intro n σ τ a1 hR hn
  have h0 := fr_0 hR
  obtain ⟨W, A, t, v, ht, hW, hA, s, bd, w3, w4, x3, x4, h14, h15⟩ := q_get hR
  obtain ⟨sn, hs, hsm⟩ := hR.2.2.2.2.1.get
  unfold qX3_kinds
  refine s0_hasWheel (fun c1 c2 => y1 ?_) (fun c => y0 ?_)
  · rw [w3] at c2
    have c1' := c1
    have c2' := c2
    obtain ⟨w, hw, rfl⟩ := idx_of c1 c2 (by omega)
    obtain ⟨b, hb⟩ := bool_of (fun j => fits W sn (up2 (o_zero (rg 1 σ)) 1 w (nI j)) σ)
    obtain ⟨m, hm⟩ : ∃ m : Nat, m = 4 := ⟨_, rfl⟩
    refine it2_inv m (fun k y2 y3 σ' => y2 = msk b k ∧ y3 = nI k ∧ Fc 7 σ σ') (fun k hk y2 y3 σ' hI K hK => ?_) (fun y2 y3 σ' hI K => ?_) 0 0 σ ⟨rfl, nI_0.symm, Fc.rf⟩
    · obtain ⟨rfl, rfl, f⟩ := hI
      unfold qX3_kinds_L17 qX3_kinds_B56
      refine ⟨fun r => absurd ((nI_lt_iff (a := 3) (by decide) (by omega)).mp r) (by omega), fun _ => ?_⟩
      refine s0_startAs (by decide) (fun σ1 e1 f1 => ⟨in_nI (by omega) (by decide), ?_⟩)
      rw [f.q.r1] at e1
      rw [tn_nI (show w < 2147483648 by omega), nI_1]
      rintro _ rfl
      have e2 : rg 7 (up2 σ1 8 w (nI k)) = up2 (o_zero (rg 1 σ)) 1 w (nI k) := by
        rw [rg_up 7 σ1 1 _ _ (rgk_a (by decide) (by decide) (by omega)), e1]
      have f2 : Fc 7 σ (up2 σ1 8 w (nI k)) := (f.tr f1).up (j := 1) (by decide) _ _
      refine s3_trialGoesAsSeen (v.k (by omega)) ht e2 (hs.fr f2) (fun r σ3 f3 => z1 ?_) (fun r σ3 f3 => z0 ?_)
      · rw [fits_fr f2] at r
        rintro _ rfl _ rfl
        exact hK _ _ _ ⟨by rw [msk, if_pos ((hb k).mpr r)], rfl, f2.tr f3⟩
      · rw [fits_fr f2] at r
        rintro _ rfl
        exact hK _ _ _ ⟨by rw [msk, if_neg (fun z => r ((hb k).mp z)), Int32.or_zero], rfl, f2.tr f3⟩
    · obtain ⟨rfl, rfl, f⟩ := hI
      unfold qX3_kinds_L17
      refine ⟨fun _ => ?_, fun r => absurd ((nI_lt_iff (a := 3) (by decide) (by omega)).mpr (by omega)) r⟩
      unfold qX4_kinds qX4_kinds_B19
      rw [show (4 : Int32) = nI m by rw [hm]; rfl]
      exact isWheel_t w4 hW c1' c2' (z1 (s4_numbersAt (c := 1) (by decide) (by decide) (by omega) hw hW hA (by omega) (fun j hj => v.k (by omega)) ht w4 h14 h15 hs hsm s (fun j _ => hb j) (fun τ' q _ => ⟨rfl, fr_Q hR f.q q⟩)))
  · rw [w3] at c
    unfold qX4_kinds qX4_kinds_B19
    exact isWheel_f w4 hW c (z0 ⟨rfl, h0⟩)
theorem s3_fittingLosses {W A t w sn m : Nat} {b : Nat → Bool} {σ : Mem} {post : Int32 → Mem → Prop} (hm : m = 10) (v : Vd W A t (o_zero (rg 1 σ))) (ht : t < 10000) (hw : w < W) (hs : seenOk sn σ) (hb : ∀ j, b j = true ↔ fits W sn (up2 (o_zero (rg 1 σ)) 3 w (nI j)) σ) (h : ∀ σ', Fc 7 σ σ' → post (msk b m) σ') : qX3_fittingLosses (nI w) σ post := by
  have hW := v.2.1
  unfold qX3_fittingLosses
  refine it2_inv m (fun k y2 y3 σ' => y2 = msk b k ∧ y3 = nI k ∧ Fc 7 σ σ') (fun k hk y2 y3 σ' hI K hK => ?_) (fun y2 y3 σ' hI K => ?_) 0 0 σ ⟨rfl, nI_0.symm, Fc.rf⟩
  · obtain ⟨rfl, rfl, f⟩ := hI
    unfold qX3_fittingLosses_L4 qX3_fittingLosses_B44
    refine ⟨fun r => absurd ((nI_lt_iff (a := 9) (by decide) (by omega)).mp r) (by omega), fun _ => ?_⟩
    refine s0_startAs (by decide) (fun σ1 e1 f1 => ⟨in_nI (by omega) (by decide), ?_⟩)
    rw [f.q.r1] at e1
    rw [tn_nI (show w < 2147483648 by omega), nI_1]
    rintro _ rfl
    have e2 : rg 7 (up2 σ1 10 w (nI k)) = up2 (o_zero (rg 1 σ)) 3 w (nI k) := by
      rw [rg_up 7 σ1 3 _ _ (rgk_a (by decide) (by decide) (by omega)), e1]
    have f2 : Fc 7 σ (up2 σ1 10 w (nI k)) := (f.tr f1).up (j := 3) (by decide) _ _
    refine s3_trialGoesAsSeen (v.l (by omega)) ht e2 (hs.fr f2) (fun r σ3 f3 => z1 ?_) (fun r σ3 f3 => z0 ?_)
    · rw [fits_fr f2] at r
      rintro _ rfl _ rfl
      exact hK _ _ _ ⟨by rw [msk, if_pos ((hb k).mpr r)], rfl, f2.tr f3⟩
    · rw [fits_fr f2] at r
      rintro _ rfl
      exact hK _ _ _ ⟨by rw [msk, if_neg (fun z => r ((hb k).mp z)), Int32.or_zero], rfl, f2.tr f3⟩
  · obtain ⟨rfl, rfl, f⟩ := hI
    unfold qX3_fittingLosses_L4
    exact ⟨fun _ => h σ' f, fun r => absurd ((nI_lt_iff (a := 9) (by decide) (by omega)).mpr (by omega)) r⟩
theorem h_losses : fp_losses fw_Rel := by
  intro n σ τ a1 hR hn
  have h0 := fr_0 hR
  obtain ⟨W, A, t, v, ht, hW, hA, s, bd, w3, w4, x3, x4, h14, h15⟩ := q_get hR
  obtain ⟨sn, hs, hsm⟩ := hR.2.2.2.2.1.get
  unfold qX3_losses qX3_losses_B20
  refine s0_hasWheel (fun c1 c2 => z1 ?_) (fun c => z0 ?_)
  · rw [w3] at c2
    have c1' := c1
    have c2' := c2
    obtain ⟨w, hw, rfl⟩ := idx_of c1 c2 (by omega)
    obtain ⟨b, hb⟩ := bool_of (fun j => fits W sn (up2 (o_zero (rg 1 σ)) 3 w (nI j)) σ)
    obtain ⟨m, hm⟩ : ∃ m : Nat, m = 10 := ⟨_, rfl⟩
    refine s3_fittingLosses hm v ht hw hs hb (fun σ' f => ?_)
    unfold qX4_losses qX4_losses_B23
    rw [show (10 : Int32) = nI m by rw [hm]; rfl, jx8]
    exact isWheel_t w4 hW c1' c2' (z1 (s4_numbersAt (c := 3) (by decide) (by decide) (by omega) hw hW hA (by omega) (fun j hj => v.l (by omega)) ht w4 h14 h15 hs hsm s (fun j _ => hb j) (fun τ' q _ => ⟨rfl, fr_Q hR f.q q⟩)))
  · rw [w3] at c
    unfold qX4_losses qX4_losses_B23
    exact isWheel_f w4 hW c (z0 ⟨rfl, h0⟩)
/-! the mask's bits -/
def mN (b : Nat → Bool) : Nat → Nat
  | 0 => 0
  | k + 1 => mN b k + (if b k = true then 2 ^ k else 0)
theorem mN_lt (b : Nat → Bool) : ∀ k, mN b k < 2 ^ k
  | 0 => Nat.one_pos
  | k + 1 => by
    have := mN_lt b k
    have e : 2 ^ (k + 1) = 2 ^ k + 2 ^ k := by rw [Nat.pow_succ]; omega
    rw [mN, e]
    split <;> omega
theorem sh_lt : ∀ j, j < 10 → (1 : Int32) <<< (nI j &&& 31) = nI (2 ^ j) := by decide +kernel
theorem sm_lt : ∀ j, j < 10 → ((nI j &&& 31).toBitVec.smod 32).toNat = j := by decide +kernel
theorem nI_or (a b : Nat) : nI a ||| nI b = nI (a ||| b) := by
  apply Int32.toBitVec_inj.mp
  show BitVec.ofNat 32 a ||| BitVec.ofNat 32 b = BitVec.ofNat 32 (a ||| b)
  apply BitVec.eq_of_toNat_eq
  rw [BitVec.toNat_or, BitVec.toNat_ofNat, BitVec.toNat_ofNat, BitVec.toNat_ofNat]
  exact (Nat.or_mod_two_pow).symm
theorem msk_N (b : Nat → Bool) : ∀ k, k ≤ 10 → msk b k = nI (mN b k)
  | 0, _ => rfl
  | k + 1, hk => by
    rw [msk, mN, msk_N b k (by omega)]
    have hl := mN_lt b k
    by_cases e : b k = true
    · rw [if_pos e, if_pos e, sh_lt k (by omega), nI_or]
      congr 1
      have := Nat.two_pow_add_eq_or_of_lt hl 1
      rw [Nat.mul_one] at this
      rw [Nat.or_comm, ← this, Nat.add_comm]
    · rw [if_neg e, if_neg e, Int32.or_zero, Nat.add_zero]
theorem mN_bit (b : Nat → Bool) (j : Nat) : ∀ k, j < k → mN b k / 2 ^ j % 2 = if b j = true then 1 else 0
  | 0, h => by omega
  | k + 1, h => by
    have hl := mN_lt b k
    rw [mN]
    by_cases e : j = k
    · subst e
      by_cases q : b j = true
      · rw [if_pos q, if_pos q, Nat.add_div_right _ (Nat.two_pow_pos j), Nat.div_eq_of_lt hl]
      · rw [if_neg q, if_neg q, Nat.add_zero, Nat.div_eq_of_lt hl]
    · have ih := mN_bit b j k (by omega)
      by_cases q : b k = true
      · rw [if_pos q]
        have e2 : 2 ^ k = 2 ^ j * (2 * 2 ^ (k - j - 1)) := by
          rw [← Nat.mul_assoc, ← Nat.pow_succ, ← Nat.pow_add]
          congr 1
          omega
        rw [e2, Nat.add_mul_div_left _ _ (Nat.two_pow_pos j), Nat.add_mul_mod_self_left]
        exact ih
      · rw [if_neg q, Nat.add_zero]
        exact ih
theorem msk_bit (b : Nat → Bool) {j : Nat} (hj : j < 10) : (msk b 10 >>> (nI j &&& 31)) &&& 1 = if b j = true then 1 else 0 := by
  have hl := mN_lt b 10
  rw [msk_N b 10 (by decide), pk_shrN (by omega) _ j (sm_lt j hj)]
  have h2 : mN b 10 / 2 ^ j ≤ mN b 10 := Nat.div_le_self _ _
  rw [pk_andN (by omega) (m := 1) 1 (by decide), mN_bit b j 10 hj]
  split <;> rfl
def bcF (a0 : Int32) : Int32 :=
  let a := a0 - (((a0.toUInt32 >>> ((1 : Int32).toUInt32 &&& Int32.toUInt32 31)).toInt32) &&& (1431655765))
  let c := (a &&& (858993459)) + (((a.toUInt32 >>> ((2 : Int32).toUInt32 &&& Int32.toUInt32 31)).toInt32) &&& (858993459))
  let d := (c + ((c.toUInt32 >>> ((4 : Int32).toUInt32 &&& Int32.toUInt32 31)).toInt32)) &&& (252645135)
  let e := d + ((d.toUInt32 >>> ((8 : Int32).toUInt32 &&& Int32.toUInt32 31)).toInt32)
  let f := e + ((e.toUInt32 >>> ((16 : Int32).toUInt32 &&& Int32.toUInt32 31)).toInt32)
  f &&& 63
theorem s6_bitCount {a : Int32} {σ : Mem} {post : Int32 → Mem → Prop} (h : post (bcF a) σ) : qJ6_bitCount_0f7a4 a σ post := by
  unfold qJ6_bitCount_0f7a4
  rintro _ rfl _ rfl _ rfl _ rfl _ rfl
  exact h
def bsum (n : Nat) : Nat → Nat
  | 0 => 0
  | k + 1 => bsum n k + n / 2 ^ k % 2
theorem bc_ok : ∀ n, n < 1024 → bcF (nI n) = nI (bsum n 10) := by decide +kernel
/-- how many fitting losses look alike at tick i -/
def cnt (b : Nat → Bool) (look : Nat → Nat → Int32) (j i : Nat) : Nat → Nat
  | 0 => 0
  | q + 1 => cnt b look j i q + (if b q = true ∧ look q i = look j i then 1 else 0)
theorem cnt_le (b : Nat → Bool) (look : Nat → Nat → Int32) (j i : Nat) : ∀ q, cnt b look j i q ≤ q
  | 0 => Nat.le_refl _
  | q + 1 => by
    have := cnt_le b look j i q
    rw [cnt]
    split <;> omega
def wst (b : Nat → Bool) (look : Nat → Nat → Int32) (i m : Nat) : Nat → Nat
  | 0 => 0
  | j + 1 => if b j = true then max (wst b look i m j) (cnt b look j i m) else wst b look i m j
theorem wst_le (b : Nat → Bool) (look : Nat → Nat → Int32) (i m : Nat) : ∀ j, wst b look i m j ≤ m
  | 0 => Nat.zero_le _
  | j + 1 => by
    have := wst_le b look i m j
    have := cnt_le b look j i m
    rw [wst]
    split <;> omega
theorem bit_t {b : Nat → Bool} {j m : Nat} (hm : m = 10) (hj : j < m) {P Q : Prop} (h1 : b j = true → Q) (h0 : ¬ b j = true → P) : (¬ ((msk b m >>> (nI j &&& 31)) &&& 1) = 1 → P) ∧ (((msk b m >>> (nI j &&& 31)) &&& 1) = 1 → Q) := by
  rw [hm, msk_bit b (by omega)]
  by_cases e : b j = true
  · rw [if_pos e]
    exact ⟨fun z => absurd rfl z, fun _ => h1 e⟩
  · rw [if_neg e]
    exact ⟨fun _ => h0 e, fun z => absurd z (by decide)⟩
theorem s3_lookAhead {W A t w m : Nat} {b : Nat → Bool} {σ : Mem} {post : Mem → Prop} (hm : m = 10) (v : Vd W A t (o_zero (rg 1 σ))) (ht : t < 10000) (hw : w < W) (h : ∀ σ', Qc σ σ' → (∀ j, j < m → b j = true → ∀ i, i ≤ 40 → σ' 47 (j * 41 + i) = o_run i (up2 (o_zero (rg 1 σ)) 3 w (nI j)) 4 w) → post σ') : qX3_lookAhead (nI w) (msk b m) σ post := by
  have hW := v.2.1
  unfold qX3_lookAhead
  refine it1_inv m (fun k y3 σ' => y3 = nI k ∧ Qc σ σ' ∧ (∀ j, j < k → b j = true → ∀ i, i ≤ 40 → σ' 47 (j * 41 + i) = o_run i (up2 (o_zero (rg 1 σ)) 3 w (nI j)) 4 w)) (fun k hk y3 σ' hI K hK => ?_) (fun y3 σ' hI K => ?_) 0 σ ⟨nI_0.symm, Qc.rf, fun j hj => absurd hj (Nat.not_lt_zero j)⟩
  · obtain ⟨rfl, q, g⟩ := hI
    unfold qX3_lookAhead_L2 qX3_lookAhead_B89
    refine ⟨fun r => absurd ((nI_lt_iff (a := 9) (by decide) (by omega)).mp r) (by omega), fun _ => bit_t hm hk (fun eb => ?_) (fun eb => ?_)⟩
    · refine s0_startAs (by decide) (fun σ1 e1 f1 => ⟨in_nI (by omega) (by decide), ?_⟩)
      rw [q.r1] at e1
      rw [tn_nI (show w < 2147483648 by omega)]
      rintro _ rfl
      have e2 : rg 7 (up2 σ1 10 w (nI k)) = up2 (o_zero (rg 1 σ)) 3 w (nI k) := by
        rw [rg_up 7 σ1 3 _ _ (rgk_a (by decide) (by decide) (by omega)), e1]
      have f2 : Fc 7 σ' (up2 σ1 10 w (nI k)) := f1.up (j := 3) (by decide) _ _
      have vk : Vd W A t (up2 (o_zero (rg 1 σ)) 3 w (nI k)) := v.l (by omega)
      refine it2_inv 41 (fun i y3 y4 σ2 => y3 = nI k ∧ y4 = nI i ∧ rg 7 σ2 = o_run i (up2 (o_zero (rg 1 σ)) 3 w (nI k)) ∧ Qc σ σ2 ∧ (∀ j, j < k → b j = true → ∀ i, i ≤ 40 → σ2 47 (j * 41 + i) = o_run i (up2 (o_zero (rg 1 σ)) 3 w (nI j)) 4 w) ∧ (∀ x, x < i → σ2 47 (k * 41 + x) = o_run x (up2 (o_zero (rg 1 σ)) 3 w (nI k)) 4 w)) (fun i hi y3 y4 σ2 hI K' hK' => ?_) (fun y3 y4 σ2 hI K' => ?_) (nI k) 0 _ ⟨rfl, nI_0.symm, e2, q.tr f2.q, fun j hj e i hi => by rw [f2 47 (by decide)]; exact g j hj e i hi, fun x hx => absurd hx (Nat.not_lt_zero x)⟩
      · obtain ⟨rfl, rfl, e3, q3, g1, g2⟩ := hI
        unfold qX3_lookAhead_L41
        have e4 : σ2 11 w = o_run i (up2 (o_zero (rg 1 σ)) 3 w (nI k)) 4 w := by rw [← e3, rg_a 4 (by decide) (by decide) (by omega)]
        rw [show (41 : Int32) = nI 41 from rfl, pk_mul, nI_add, tn_nI (by omega), tn_nI (by omega), e4, nI_1]
        refine ⟨fun r => absurd ((nI_lt_iff (a := 40) (by decide) (by omega)).mp r) (by omega), fun _ => ⟨in_nI (by omega) (by decide), in_nI (by omega) (by decide), ?_⟩⟩
        rintro _ rfl
        have e5 : rg 7 (up2 σ2 47 (k * 41 + i) (o_run i (up2 (o_zero (rg 1 σ)) 3 w (nI k)) 4 w)) = o_run i (up2 (o_zero (rg 1 σ)) 3 w (nI k)) := by rw [rg_out _ _ (by decide), e3]
        refine s0_passTick (W := W) (A := A) (t := t + i) (by rw [e5]; exact vk.run i (by omega)) (fun σ3 e6 f6 => ?_)
        rintro _ rfl
        refine hK' _ _ _ ⟨rfl, rfl, by rw [e6, e5]; rfl, q3.tr (Qc.tr (fun c _ h2 => rd_c h2) f6.q), fun j hj e x hx => ?_, fun x hx => ?_⟩
        · rw [f6 47 (by decide), rd_ne (by omega)]; exact g1 j hj e x hx
        · rw [f6 47 (by decide)]
          by_cases ex : x = i
          · subst ex; exact rd_eq _ _ _ _
          · rw [rd_ne (by omega)]; exact g2 x (by omega)
      · obtain ⟨rfl, rfl, e3, q3, g1, g2⟩ := hI
        unfold qX3_lookAhead_L41 qX3_lookAhead_B89
        rw [nI_1]
        refine ⟨fun _ => ?_, fun r => absurd (by decide) r⟩
        rintro _ rfl
        refine hK _ _ ⟨rfl, q3, fun j hj e x hx => ?_⟩
        by_cases ej : j = k
        · subst ej; exact g2 x (by omega)
        · exact g1 j (by omega) e x hx
    · rw [nI_1]
      rintro _ rfl
      refine hK _ _ ⟨rfl, q, fun j hj e x hx => ?_⟩
      by_cases ej : j = k
      · subst ej; exact absurd e eb
      · exact g j (by omega) e x hx
  · obtain ⟨rfl, q, g⟩ := hI
    unfold qX3_lookAhead_L2
    exact ⟨fun _ => h σ' q g, fun r => absurd ((nI_lt_iff (a := 9) (by decide) (by omega)).mpr (by omega)) r⟩
theorem s3_like {i j m : Nat} {b : Nat → Bool} {look : Nat → Nat → Int32} {σ : Mem} {post : Int32 → Mem → Prop} (hm : m = 10) (hi : i ≤ 40) (hj : j < m) (bj : b j = true) (hl : ∀ j, j < m → b j = true → ∀ i, i ≤ 40 → σ 47 (j * 41 + i) = look j i) (h : post (nI (cnt b look j i m)) σ) : qX3_lossesLookingLike (nI j) (nI i) (msk b m) σ post := by
  unfold qX3_lossesLookingLike
  rw [show (41 : Int32) = nI 41 from rfl, pk_mul, nI_add, tn_nI (by omega), hl j hj bj i hi]
  refine ⟨in_nI (by omega) (by decide), ?_⟩
  rintro _ rfl
  refine it3_inv m (fun q y4 y5 y6 σ' => y4 = look j i ∧ y5 = nI (cnt b look j i q) ∧ y6 = nI q ∧ σ' = σ) (fun q hq y4 y5 y6 σ' hI K hK => ?_) (fun y4 y5 y6 σ' hI K => ?_) (look j i) 0 0 σ ⟨rfl, rfl, nI_0.symm, rfl⟩
  · obtain ⟨rfl, rfl, rfl, rfl⟩ := hI
    have hc := cnt_le b look j i q
    unfold qX3_lossesLookingLike_L19 qX3_lossesLookingLike_B56
    refine ⟨fun r => absurd ((nI_lt_iff (a := 9) (by decide) (by omega)).mp r) (by omega), fun _ => bit_t hm hq (fun eb => ?_) (fun eb => ?_)⟩
    · rw [show (41 : Int32) = nI 41 from rfl, pk_mul, nI_add, tn_nI (by omega), hl q hq eb i hi, nI_1, nI_1]
      refine ⟨in_nI (by omega) (by decide), fun r => ?_, fun r => ?_⟩
      · rintro _ rfl
        exact hK _ _ _ _ ⟨rfl, by rw [cnt, if_neg (fun z => r z.2), Nat.add_zero], rfl, rfl⟩
      · rintro _ rfl _ rfl
        exact hK _ _ _ _ ⟨rfl, by rw [cnt, if_pos ⟨eb, r⟩], rfl, rfl⟩
    · rw [nI_1]
      rintro _ rfl
      exact hK _ _ _ _ ⟨rfl, by rw [cnt, if_neg (fun z => eb z.1), Nat.add_zero], rfl, rfl⟩
  · obtain ⟨rfl, rfl, rfl, rfl⟩ := hI
    unfold qX3_lossesLookingLike_L19
    exact ⟨fun _ => h, fun r => absurd ((nI_lt_iff (a := 9) (by decide) (by omega)).mpr (by omega)) r⟩
theorem s3_leftAtWorst {i m : Nat} {b : Nat → Bool} {look : Nat → Nat → Int32} {σ : Mem} {post : Int32 → Mem → Prop} (hm : m = 10) (hi : i ≤ 40) (hl : ∀ j, j < m → b j = true → ∀ i, i ≤ 40 → σ 47 (j * 41 + i) = look j i) (h : post (nI (wst b look i m m)) σ) : qX3_leftAtWorst (nI i) (msk b m) σ post := by
  unfold qX3_leftAtWorst
  refine it2_inv m (fun j y3 y4 σ' => y3 = nI (wst b look i m j) ∧ y4 = nI j ∧ σ' = σ) (fun j hj y3 y4 σ' hI K hK => ?_) (fun y3 y4 σ' hI K => ?_) 0 0 σ ⟨rfl, nI_0.symm, rfl⟩
  · obtain ⟨rfl, rfl, rfl⟩ := hI
    unfold qX3_leftAtWorst_L5 qX3_leftAtWorst_B35
    refine ⟨fun r => absurd ((nI_lt_iff (a := 9) (by decide) (by omega)).mp r) (by omega), fun _ => bit_t hm hj (fun eb => ?_) (fun eb => ?_)⟩
    · refine s3_like hm hi hj eb hl ?_
      have h1 := wst_le b look i m j
      have h2 := cnt_le b look j i m
      rw [nI_1]
      rintro _ rfl _ rfl
      refine hK _ _ _ ⟨?_, rfl, rfl⟩
      rw [wst, if_pos eb]
      exact iMax_nI (by omega) (by omega)
    · rw [nI_1]
      rintro _ rfl
      exact hK _ _ _ ⟨by rw [wst, if_neg eb], rfl, rfl⟩
  · obtain ⟨rfl, rfl, rfl⟩ := hI
    unfold qX3_leftAtWorst_L5
    exact ⟨fun _ => h, fun r => absurd ((nI_lt_iff (a := 9) (by decide) (by omega)).mpr (by omega)) r⟩
theorem s4_worstAt {i m : Nat} {b : Nat → Bool} {look : Nat → Nat → Int32} {τ : Mem} {post : Int32 → Mem → Prop} (hm : m = 10) (hi : i ≤ 40) (hl : ∀ j, j < m → ∀ i, i ≤ 40 → τ 7 (41 * j + i) = look j i) (h : post (nI (wst b look i m m)) τ) : qX4_worstAt (msk b m) (nI i) τ post := by
  unfold qX4_worstAt
  refine it2_inv m (fun j y3 y4 σ' => y3 = nI (wst b look i m j) ∧ y4 = nI j ∧ σ' = τ) (fun j hj y3 y4 σ' hI K hK => ?_) (fun y3 y4 σ' hI K => ?_) 0 0 τ ⟨rfl, nI_0.symm, rfl⟩
  · obtain ⟨rfl, rfl, rfl⟩ := hI
    have h1 := wst_le b look i m j
    unfold qX4_worstAt_L5
    refine ⟨fun r => absurd ((nI_lt_iff (a := 9) (by decide) (by omega)).mp r) (by omega), fun _ => ?_⟩
    by_cases eb : b j = true
    · refine it4_inv m (fun q y3 y4 y5 y6 τ' => y3 = nI (wst b look i m j) ∧ y4 = nI j ∧ y5 = nI (cnt b look j i q) ∧ y6 = nI q ∧ τ' = σ') (fun q hq y3 y4 y5 y6 τ' hI K' hK' => ?_) (fun y3 y4 y5 y6 τ' hI K' => ?_) _ (nI j) 0 0 σ' ⟨rfl, rfl, rfl, nI_0.symm, rfl⟩
      · obtain ⟨rfl, rfl, rfl, rfl, rfl⟩ := hI
        have hc := cnt_le b look j i q
        unfold qX4_worstAt_L18 qX4_worstAt_B78 qX4_worstAt_B79
        refine ⟨fun r => absurd ((nI_lt_iff (a := 9) (by decide) (by omega)).mp r) (by omega), fun _ => bit_t hm hj (fun _ => bit_t hm hq (fun ebq => ?_) (fun ebq => ?_)) (fun z => absurd eb z)⟩
        · rw [show (41 : Int32) = nI 41 from rfl, pk_mul, pk_mul, nI_add, nI_add, tn_nI (by omega), tn_nI (by omega), hl j hj i hi, hl q hq i hi, nI_1, nI_1, Int32.add_zero]
          refine ⟨in_nI (by omega) (by decide), in_nI (by omega) (by decide), fun r => ?_, fun r => ?_⟩
          · rintro _ rfl _ rfl
            exact hK' _ _ _ _ _ ⟨rfl, rfl, by rw [cnt, if_neg (fun z => r z.2.symm), Nat.add_zero], rfl, rfl⟩
          · rintro _ rfl _ rfl
            exact hK' _ _ _ _ _ ⟨rfl, rfl, by rw [cnt, if_pos ⟨ebq, r.symm⟩], rfl, rfl⟩
        · rw [nI_1, Int32.add_zero]
          rintro _ rfl _ rfl
          exact hK' _ _ _ _ _ ⟨rfl, rfl, by rw [cnt, if_neg (fun z => ebq z.1), Nat.add_zero], rfl, rfl⟩
      · obtain ⟨rfl, rfl, rfl, rfl, rfl⟩ := hI
        have h2 := cnt_le b look j i m
        unfold qX4_worstAt_L18 qX4_worstAt_B88 qX4_worstAt_B100
        rw [nI_1, nI_le_iff (by omega) (by omega)]
        refine ⟨fun _ => ⟨fun r => ?_, fun r => ?_⟩, fun r => absurd ((nI_lt_iff (a := 9) (by decide) (by omega)).mpr (by omega)) r⟩
        · rintro _ rfl
          exact hK _ _ _ ⟨by rw [wst, if_pos eb, Nat.max_eq_left r], rfl, rfl⟩
        · rintro _ rfl
          exact hK _ _ _ ⟨by rw [wst, if_pos eb, Nat.max_eq_right (by omega)], rfl, rfl⟩
    · refine it4_inv 0 (fun q y3 y4 y5 y6 τ' => y3 = nI (wst b look i m j) ∧ y4 = nI j ∧ y5 = 0 ∧ y6 = 0 ∧ τ' = σ') (fun q hq y3 y4 y5 y6 τ' hI K' hK' => absurd hq (Nat.not_lt_zero q)) (fun y3 y4 y5 y6 τ' hI K' => ?_) _ (nI j) 0 0 σ' ⟨rfl, rfl, rfl, rfl, rfl⟩
      obtain ⟨rfl, rfl, rfl, rfl, rfl⟩ := hI
      unfold qX4_worstAt_L18 qX4_worstAt_B88 qX4_worstAt_B100
      rw [nI_1]
      refine ⟨fun r => absurd r (by decide), fun _ => bit_t hm hj (fun z => absurd z eb) (fun _ => ⟨fun _ => ?_, fun r => absurd (nI_pos' (by omega)) r⟩)⟩
      rintro _ rfl
      exact hK _ _ _ ⟨by rw [wst, if_neg eb], rfl, rfl⟩
  · obtain ⟨rfl, rfl, rfl⟩ := hI
    unfold qX4_worstAt_L5
    exact ⟨fun _ => h, fun r => absurd ((nI_lt_iff (a := 9) (by decide) (by omega)).mpr (by omega)) r⟩
def stq (c v : Int32) (p : Int32 × Int32) : Int32 × Int32 := if p.2 ≤ v then p else (c, v)
def flQ (f : Nat → Int32) (p : Int32 × Int32) : Nat → Int32 × Int32
  | 0 => p
  | k + 1 => stq (nI k) (f k) (flQ f p k)
theorem h_ask : fp_ask fw_Rel := by
  intro n σ τ a1 a2 hR hn
  have h0 := fr_0 hR
  obtain ⟨W, A, t, v, ht, hW, hA, s, bd, w3, w4, x3, x4, h14, h15⟩ := q_get hR
  obtain ⟨sn, hs, hsm⟩ := hR.2.2.2.2.1.get
  unfold qX3_ask qX3_ask_B20
  refine s0_hasWheel (fun c1 c2 => z1 ?_) (fun c => z0 ?_)
  · rw [w3] at c2
    have c1' := c1
    have c2' := c2
    obtain ⟨w, hw, rfl⟩ := idx_of c1 c2 (by omega)
    refine s3_within (fun c3 c4 => y1 ?_) (fun c => y0 ?_)
    · obtain ⟨b, hb⟩ := bool_of (fun j => fits W sn (up2 (o_zero (rg 1 σ)) 3 w (nI j)) σ)
      obtain ⟨m, hm⟩ : ∃ m : Nat, m = 10 := ⟨_, rfl⟩
      generalize hl0 : (fun j i => o_run i (up2 (o_zero (rg 1 σ)) 3 w (nI j)) 4 w : Nat → Nat → Int32) = look
      have hl1 : ∀ j i, o_run i (up2 (o_zero (rg 1 σ)) 3 w (nI j)) 4 w = look j i := fun j i => by rw [← hl0]
      refine s3_fittingLosses hm v ht hw hs hb (fun σ1 f1 => ?_)
      have ez : o_zero (rg 1 σ1) = o_zero (rg 1 σ) := by rw [f1.q.r1]
      refine s3_lookAhead hm (by rw [ez]; exact v) ht hw (fun σ2 q2 g2 => s6_bitCount ?_)
      rw [ez] at g2
      have g3 : ∀ j, j < m → b j = true → ∀ i, i ≤ 40 → σ2 47 (j * 41 + i) = look j i := fun j hj e i hi => by rw [g2 j hj e i hi, hl1]
      have hbc : bcF (msk b m) = nI (bsum (mN b 10) 10) := by
        rw [hm, msk_N b 10 (by decide)]
        exact bc_ok _ (mN_lt b 10)
      rw [hbc]
      generalize hp : ((-4, nI (bsum (mN b 10) 10)) : Int32 × Int32) = p
      have hp1 : p.1 = -4 := by rw [← hp]
      have hp2 : p.2 = nI (bsum (mN b 10) 10) := by rw [← hp]
      generalize hf : (fun i => nI (wst b look i m m) : Nat → Int32) = f
      have hf2 : ∀ i, nI (wst b look i m m) = f i := fun i => by rw [← hf]
      have qc := f1.q.tr q2
      obtain ⟨e41, he41⟩ : ∃ e : Nat, e = 41 := ⟨_, rfl⟩
      have mdl : qX4_ask (nI w) a2 τ (fun r' τ' => rsl a2 (flQ f p e41) = r' ∧ fw_Rel (n + 1) σ2 τ') := by
        unfold qX4_ask
        rw [show (10 : Int32) = nI m by rw [hm]; rfl, jx8]
        refine isWheel_t w4 hW c1' c2' (z1 (in_t (lo := 0) (hi := 1) rfl rfl c3 c4 (y1 (s4_numbersAt (c := 3) (by decide) (by decide) (by omega) hw hW hA (by omega) (fun j hj => v.l (by omega)) ht w4 h14 h15 hs hsm s (fun j _ => hb j) (fun τ1 q1 g1 => ?_)))))
        have g4 : ∀ j, j < m → ∀ i, i ≤ 40 → τ1 7 (41 * j + i) = look j i := fun j hj i hi => by rw [g1 j hj i hi, hl1]
        refine it3_inv m (fun k y3 y4 y5 τ' => y3 = msk b m ∧ y4 = nI (bsum (mN b 10) k) ∧ y5 = nI k ∧ τ' = τ1) (fun k hk y3 y4 y5 τ' hI K hK => ?_) (fun y3 y4 y5 τ' hI K => ?_) (msk b m) 0 0 τ1 ⟨rfl, rfl, nI_0.symm, rfl⟩
        · obtain ⟨rfl, rfl, rfl, rfl⟩ := hI
          unfold qX4_ask_L38
          refine ⟨fun r => absurd ((nI_lt_iff (a := 9) (by decide) (by omega)).mp r) (by omega), fun _ => ?_⟩
          have eb : (msk b m >>> (nI k &&& 31)) &&& 1 = nI (mN b 10 / 2 ^ k % 2) := by
            rw [hm, msk_bit b (by omega), mN_bit b k 10 (by omega)]
            split <;> rfl
          rw [eb, nI_add, nI_1]
          rintro _ rfl _ rfl
          exact hK _ _ _ _ ⟨rfl, rfl, rfl, rfl⟩
        · obtain ⟨rfl, rfl, rfl, rfl⟩ := hI
          unfold qX4_ask_L38
          refine ⟨fun _ => ?_, fun r => absurd ((nI_lt_iff (a := 9) (by decide) (by omega)).mpr (by omega)) r⟩
          refine it4_inv e41 (fun k y3 y4 y5 y6 τ2 => y3 = msk b m ∧ y4 = (flQ f p k).2 ∧ y5 = (flQ f p k).1 ∧ y6 = nI k ∧ τ2 = τ') (fun k hk y3 y4 y5 y6 τ2 hI K' hK' => ?_) (fun y3 y4 y5 y6 τ2 hI K' => ?_) (msk b m) _ (-4) 0 τ' ⟨rfl, by rw [hm]; exact hp2.symm, hp1.symm, nI_0.symm, rfl⟩
          · obtain ⟨rfl, rfl, rfl, rfl, rfl⟩ := hI
            unfold qX4_ask_L69
            refine ⟨fun r => absurd ((nI_lt_iff (a := 40) (by decide) (by omega)).mp r) (by omega), fun _ => ?_⟩
            refine s4_worstAt hm (by omega) g4 ?_
            rw [hf2]
            unfold qX4_ask_B99 qX4_ask_B115
            rw [nI_1]
            refine ⟨fun r => ⟨fun _ => ?_, fun r2 => absurd r r2⟩, fun r => ⟨fun r2 => absurd r2 r, fun _ => ?_⟩⟩
            · rintro _ rfl
              exact hK' _ _ _ _ _ ⟨rfl, by rw [flQ, stq, if_pos r], by rw [flQ, stq, if_pos r], rfl, rfl⟩
            · rintro _ rfl
              exact hK' _ _ _ _ _ ⟨rfl, by rw [flQ, stq, if_neg r], by rw [flQ, stq, if_neg r], rfl, rfl⟩
          · obtain ⟨rfl, rfl, rfl, rfl, rfl⟩ := hI
            unfold qX4_ask_L69 qX4_ask_B134 qX4_ask_B141
            refine ⟨fun _ => ⟨fun r => ⟨?_, fr_Q hR qc q1⟩, fun r => ⟨fun r2 => ⟨?_, fr_Q hR qc q1⟩, fun r2 => ⟨?_, fr_Q hR qc q1⟩⟩⟩, fun r => absurd ((nI_lt_iff (a := 40) (by decide) (by omega)).mpr (by omega)) r⟩
            · rw [rsl, if_pos r]
            · rw [rsl, if_neg r, if_neg r2]
            · rw [rsl, if_neg r, if_pos r2]
      refine it4_inv e41 (fun k y3 y4 y5 y6 σ' => y3 = msk b m ∧ y5 = (flQ f p k).2 ∧ y4 = (flQ f p k).1 ∧ y6 = nI k ∧ σ' = σ2) (fun k hk y3 y4 y5 y6 σ' hI K hK => ?_) (fun y3 y4 y5 y6 σ' hI K => ?_) (msk b m) (-4) _ 0 σ2 ⟨rfl, hp2.symm, hp1.symm, nI_0.symm, rfl⟩
      · obtain ⟨rfl, rfl, rfl, rfl, rfl⟩ := hI
        unfold qX3_ask_L47 qX3_ask_B78
        refine ⟨fun r => absurd ((nI_lt_iff (a := 40) (by decide) (by omega)).mp r) (by omega), fun _ => ?_⟩
        refine s3_leftAtWorst hm (by omega) g3 ?_
        rw [hf2, nI_1]
        refine ⟨fun r => ?_, fun r => ?_⟩
        · rintro _ rfl
          exact hK _ _ _ _ _ ⟨rfl, by rw [flQ, stq, if_pos r], by rw [flQ, stq, if_pos r], rfl, rfl⟩
        · rintro _ rfl
          exact hK _ _ _ _ _ ⟨rfl, by rw [flQ, stq, if_neg r], by rw [flQ, stq, if_neg r], rfl, rfl⟩
      · obtain ⟨rfl, rfl, rfl, rfl, rfl⟩ := hI
        unfold qX3_ask_L47 qX3_ask_B95 qX3_ask_B102
        refine ⟨fun _ => ⟨fun r => ?_, fun r => ⟨fun r2 => ?_, fun r2 => ?_⟩⟩, fun r => absurd ((nI_lt_iff (a := 40) (by decide) (by omega)).mpr (by omega)) r⟩
        · rw [rsl, if_pos r] at mdl; exact mdl
        · rw [rsl, if_neg r, if_neg r2] at mdl; exact mdl
        · rw [rsl, if_neg r, if_pos r2] at mdl; exact mdl
    · unfold qX4_ask qX4_ask_B18
      exact isWheel_t w4 hW c1' c2' (z1 (in_f (lo := 0) (hi := 1) rfl rfl c (y0 ⟨rfl, h0⟩)))
  · rw [w3] at c
    unfold qX4_ask qX4_ask_B18
    exact isWheel_f w4 hW c (z0 ⟨rfl, h0⟩)
