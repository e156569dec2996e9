/-! PURE, 17: drives that fail by odds -/
def btI (u k : Nat) : Int32 := (nI u >>> (nI k &&& 31)) &&& 1
def actX (u k : Nat) (ρ : Mem) : Int32 := if btI u k = 1 ∧ ¬ 100 ≤ o_due ρ then 0 else o_due ρ
def frn (u : Nat) : Nat → Mem → Mem
  | 0, ρ => ρ
  | k + 1, ρ => o_tickW (actX u k (frn u k ρ)) (frn u k ρ)
theorem frn_vd {W A t : Nat} {ρ : Mem} (v : Vd W A t ρ) (u : Nat) : ∀ k, t + k < 20000 → Vd W A (t + k) (frn u k ρ)
  | 0, _ => v
  | k + 1, h => (frn_vd v u k (by omega)).tickW _ (by omega)
theorem actX_nI {W A t : Nat} {ρ : Mem} (v : Vd W A t ρ) (u k : Nat) : ∃ x, actX u k ρ = nI x ∧ x ≤ 203 := by
  unfold actX
  split
  · exact ⟨0, rfl, by decide⟩
  · exact due_nI v
theorem frn_bd {W A t S : Nat} {ρ : Mem} (b : Bd W S ρ) (v : Vd W A t ρ) (u : Nat) : ∀ k, t + k < 20000 → S + 99 * k ≤ 6000000 → Bd W (S + 99 * k) (frn u k ρ)
  | 0, _, _ => b
  | k + 1, h1, h2 => by
    have vk := frn_vd v u k (by omega)
    obtain ⟨x, ex, hx⟩ := actX_nI vk u k
    have := (frn_bd b v u k (by omega) (by omega)).tickW vk hx (by omega)
    rw [show S + 99 * (k + 1) = S + 99 * k + 99 by omega, frn, ex]
    exact this
theorem frn_done {W A t S : Nat} {ρ : Mem} (b : Bd W S ρ) (v : Vd W A t ρ) (h : ρ 0 10 = 0) (u : Nat) : ∀ k, t + k < 20000 → S + 99 * k ≤ 6000000 → ∃ y, y ≤ 99 * k ∧ frn u k ρ 0 10 = nI y
  | 0, _, _ => ⟨0, by omega, h⟩
  | k + 1, h1, h2 => by
    obtain ⟨y, hy, ey⟩ := frn_done b v h u k (by omega) (by omega)
    obtain ⟨x, ex, hx⟩ := actX_nI (frn_vd v u k (by omega)) u k
    obtain ⟨z, hz, ez⟩ := tickW_done (frn_bd b v u k (by omega) (by omega)) hx (by omega) ey
    exact ⟨z, by omega, by rw [frn, ex]; exact ez⟩
theorem s3_runFailing {W A t u m : Nat} {σ : Mem} {post : Mem → Prop} (v : Vd W A t (o_zero (rg 1 σ))) (ht : t < 10000) (hm : m ≤ 8) (h : ∀ σ', rg 7 σ' = frn u m (o_zero (rg 1 σ)) → Fc 7 σ σ' → post σ') : qX3_runFailing (nI u) (nI m) σ post := by
  unfold qX3_runFailing
  refine s0_startAs (by decide) (fun σ1 e1 f1 => ?_)
  refine it1_inv m (fun k y3 σ' => y3 = nI k ∧ rg 7 σ' = frn u k (o_zero (rg 1 σ)) ∧ Fc 7 σ σ') (fun k hk y3 σ' hI K hK => ?_) (fun y3 σ' hI K => ?_) 0 σ1 ⟨nI_0.symm, e1, f1⟩
  · obtain ⟨rfl, e2, f2⟩ := hI
    have vk := frn_vd v u k (by omega)
    have w7 : σ' 7 2 = nI W := by
      have q := vk.1
      rw [← e2] at q
      exact q
    unfold qX3_runFailing_L13
    refine ⟨fun r => absurd ((nI_le_iff (by omega) (by omega)).mp r) (by omega), fun _ => s0_dueAct (by rw [e2]; exact vk) ?_⟩
    have go : ∀ x : Int32, x = actX u k (frn u k (o_zero (rg 1 σ))) → qX3_runFailing_B65 (nI u) (nI m) post K (nI k) x σ' := by
      rintro _ rfl
      unfold qX3_runFailing_B65
      refine s0_passTickWith w7 vk.2.1 (fun σ3 e3 f3 => ?_)
      rw [nI_1]
      rintro _ rfl
      exact hK _ _ ⟨rfl, by rw [e3, e2]; rfl, f2.tr f3⟩
    rw [e2]
    unfold qX3_runFailing_B47 qX3_runFailing_B48
    refine ⟨fun r => z0 (go _ ?_), fun r => ⟨fun q => z0 (go _ ?_), fun q => z1 (go _ ?_)⟩⟩
    · rw [actX, if_neg (fun z => r z.1)]
    · rw [actX, if_neg (fun z => z.2 q)]
    · rw [actX, if_pos ⟨r, q⟩]
  · obtain ⟨rfl, e2, f2⟩ := hI
    unfold qX3_runFailing_L13
    exact ⟨fun _ => h σ' e2 f2, fun r => absurd (Int32.le_refl _) r⟩
def wtN (p u : Nat) : Nat → Nat
  | 0 => 1
  | k + 1 => wtN p u k * (if btI u k = 1 then p else 10 - p)
theorem wtN_le {p : Nat} (hp : p ≤ 10) (u : Nat) : ∀ k, wtN p u k ≤ 10 ^ k
  | 0 => Nat.le_refl _
  | k + 1 => by
    rw [wtN, Nat.pow_succ]
    refine Nat.mul_le_mul (wtN_le hp u k) ?_
    split <;> omega
theorem p10 {k : Nat} (hk : k ≤ 8) : 10 ^ k ≤ 100000000 := Nat.pow_le_pow_right (n := 10) (by decide) hk
theorem ten_sub {p : Nat} (hp : p ≤ 10) : ((10 : Int32) - nI p).toInt64 = lN (10 - p) := by
  rw [show (10 : Int32) = nI 10 from rfl, pk_sub hp, nI_l (by omega)]
theorem s3_weightOf {p u m : Nat} {σ : Mem} {post : Int64 → Mem → Prop} (hp : p ≤ 10) (hm : m ≤ 8) (h : post (lN (wtN p u m)) σ) : qX3_weightOf (nI u) (nI p) (nI m) σ post := by
  unfold qX3_weightOf
  refine it2_inv m (fun k y3 y5 σ' => y3 = lN (wtN p u k) ∧ y5 = nI k ∧ σ' = σ) (fun k hk y3 y5 σ' hI K hK => ?_) (fun y3 y5 σ' hI K => ?_) 1 0 σ ⟨rfl, nI_0.symm, rfl⟩
  · obtain ⟨rfl, rfl, rfl⟩ := hI
    unfold qX3_weightOf_L5 qX3_weightOf_B32
    rw [ten_sub hp, nI_l (by omega), lN_mul, lN_mul, nI_1]
    refine ⟨fun r => absurd ((nI_le_iff (by omega) (by omega)).mp r) (by omega), fun _ => ⟨fun r => ?_, fun r => ?_⟩⟩
    · rintro _ rfl _ rfl
      exact hK _ _ _ ⟨by rw [wtN, btI, if_neg r], rfl, rfl⟩
    · rintro _ rfl _ rfl
      exact hK _ _ _ ⟨by rw [wtN, btI, if_pos r], rfl, rfl⟩
  · obtain ⟨rfl, rfl, rfl⟩ := hI
    unfold qX3_weightOf_L5
    exact ⟨fun _ => h, fun r => absurd (Int32.le_refl _) r⟩
theorem s3_allWeights {m : Nat} {σ : Mem} {post : Int64 → Mem → Prop} (hm : m ≤ 8) (h : post (lN (10 ^ m)) σ) : qX3_allWeights (nI m) σ post := by
  unfold qX3_allWeights
  refine it2_inv m (fun k y1 y3 σ' => y1 = lN (10 ^ k) ∧ y3 = nI k ∧ σ' = σ) (fun k hk y1 y3 σ' hI K hK => ?_) (fun y1 y3 σ' hI K => ?_) 1 0 σ ⟨rfl, nI_0.symm, rfl⟩
  · obtain ⟨rfl, rfl, rfl⟩ := hI
    unfold qX3_allWeights_L4
    rw [show (10 : Int64) = lN 10 from rfl, lN_mul, nI_1]
    refine ⟨fun r => absurd ((nI_le_iff (by omega) (by omega)).mp r) (by omega), fun _ => ?_⟩
    rintro _ rfl _ rfl
    exact hK _ _ _ ⟨by rw [Nat.pow_succ], rfl, rfl⟩
  · obtain ⟨rfl, rfl, rfl⟩ := hI
    unfold qX3_allWeights_L4
    exact ⟨fun _ => h, fun r => absurd (Int32.le_refl _) r⟩
theorem half_mod {b r : Nat} (h0 : 0 < r) (h1 : r < b) : 2 * (b % r) < b := by
  by_cases c : 2 * r ≤ b
  · have := Nat.mod_lt b h0
    omega
  · have : b % r = b - r := by
      rw [Nat.mod_eq_sub_mod (by omega), Nat.mod_eq_of_lt (by omega)]
    omega
theorem gcd_step (a b : Nat) : Nat.gcd b (a % b) = Nat.gcd a b := by
  rw [Nat.gcd_comm b, ← Nat.gcd_rec, Nat.gcd_comm]
theorem lN_ne0 {b : Nat} (h0 : 0 < b) (hb : b < 2 ^ 63) : ¬ lN b = 0 := fun z => by
  have := (pk_lEQ (b := 0) hb (by decide)).mp z
  omega
theorem part_end {a b g : Nat} {a4 : Int32} {σ : Mem} {post : Int64 → Mem → Prop} (ha : a < 2 ^ 63) (hb : b < 2 ^ 63) (hg : 0 < g) (hg2 : g < 2 ^ 63) (h : post (lN ((if a4 = 0 then a else b) / g)) σ) : qX3_partOfFraction_B44 (lN a) (lN b) a4 post (lN g) σ := by
  unfold qX3_partOfFraction_B44 qX3_partOfFraction_B54 qX3_partOfFraction_B73
  rw [lg_cmp_le, show (0 : Int64) = lN 0 from rfl, pk_lLE hg2 (by decide), pk_lDiv ha hg hg2, pk_lDiv hb hg hg2]
  have nz : ¬ lN g = lN 0 := lN_ne0 hg hg2
  refine ⟨fun c => ⟨fun z => by omega, fun _ => ⟨nz, ?_⟩⟩, fun c => ⟨fun z => by omega, fun _ => ⟨nz, ?_⟩⟩⟩
  · rw [if_neg c] at h; exact h
  · rw [if_pos c] at h; exact h
theorem part_loop {a0 b0 : Nat} {a4 : Int32} {σ : Mem} {post : Int64 → Mem → Prop} (ha0 : a0 < 2 ^ 63) (hb0 : b0 < 2 ^ 63) (h : post (lN ((if a4 = 0 then a0 else b0) / Nat.gcd a0 b0)) σ) : ∀ j a b k, b < 2 ^ j → k + 2 * j ≤ 100 → a < 2 ^ 63 → b < 2 ^ 63 → 0 < Nat.gcd a b → Nat.gcd a b = Nat.gcd a0 b0 → ∃ n, it3 (qX3_partOfFraction_L9 (lN a0) (lN b0) a4 post) n (lN a) (lN b) (nI k) σ := by
  have zero : ∀ a k, a < 2 ^ 63 → 0 < a → a = Nat.gcd a0 b0 → ∀ K, qX3_partOfFraction_L9 (lN a0) (lN b0) a4 post K (lN a) (lN 0) k σ := by
    intro a k ha hp hg K
    unfold qX3_partOfFraction_L9
    have E := part_end (a4 := a4) (σ := σ) (post := post) ha0 hb0 hp ha (by rw [hg]; exact h)
    exact ⟨fun _ => E, fun _ => ⟨fun _ => E, fun z => absurd ((lg_cmp_eq _ _).mpr rfl) z⟩⟩
  have step : ∀ a b k K, k < 100 → a < 2 ^ 63 → 0 < b → b < 2 ^ 63 → K (lN b) (lN (a % b)) (nI (k + 1)) σ → qX3_partOfFraction_L9 (lN a0) (lN b0) a4 post K (lN a) (lN b) (nI k) σ := by
    intro a b k K hk ha hb hb2 hK
    unfold qX3_partOfFraction_L9
    have nz := lN_ne0 hb hb2
    refine ⟨fun z => absurd ((nI_le_iff (a := 100) (by decide) (by omega)).mp z) (by omega), fun _ => ⟨fun z => absurd ((lg_cmp_eq _ _).mp z) nz, fun _ => ⟨nz, ?_⟩⟩⟩
    rw [pk_lRem ha hb hb2, nI_1]
    rintro _ rfl _ rfl
    exact hK
  intro j
  induction j with
  | zero =>
    intro a b k h1 h2 h3 h4 h5 h6
    have : b = 0 := by
      have e : 2 ^ 0 = 1 := rfl
      omega
    subst this
    rw [Nat.gcd_zero_right] at h5 h6
    exact ⟨1, zero a _ h3 h5 h6 _⟩
  | succ j ih =>
    intro a b k h1 h2 h3 h4 h5 h6
    rcases Nat.eq_zero_or_pos b with z | z
    · subst z
      rw [Nat.gcd_zero_right] at h5 h6
      exact ⟨1, zero a _ h3 h5 h6 _⟩
    · have hr := Nat.mod_lt a z
      rcases Nat.eq_zero_or_pos (a % b) with y | y
      · have g1 := gcd_step a b
        rw [y, Nat.gcd_zero_right] at g1
        refine ⟨2, step a b k _ (by omega) h3 z h4 ?_⟩
        rw [y]
        exact zero b _ h4 z (by rw [g1]; exact h6) _
      · have hh := half_mod y hr
        have e : 2 ^ (j + 1) = 2 * 2 ^ j := by rw [Nat.pow_succ]; omega
        have g1 := gcd_step a b
        have g2 := gcd_step b (a % b)
        obtain ⟨n, hn⟩ := ih (a % b) (b % (a % b)) (k + 2) (by omega) (by omega) (by omega) (by omega) (by rw [g2, g1]; exact h5) (by rw [g2, g1]; exact h6)
        exact ⟨n + 2, step a b k _ (by omega) h3 z h4 (step b (a % b) (k + 1) _ (by omega) h4 y (by omega) hn)⟩
theorem s3_partOfFraction {a b : Nat} {a4 : Int32} {σ : Mem} {post : Int64 → Mem → Prop} (ha : a < 2 ^ 63) (h0 : 0 < b) (hb : b ≤ 100000000) (h : post (lN ((if a4 = 0 then a else b) / Nat.gcd a b)) σ) : qX3_partOfFraction (lN a) (lN b) a4 σ post := by
  unfold qX3_partOfFraction
  exact part_loop ha (by omega) h 27 a b 0 (by omega) (by omega) ha (by omega) (Nat.gcd_pos_of_pos_right a h0) rfl
theorem low_loop {a0 b0 : Nat} {a4 : Int32} {σ : Mem} {post : Int64 → Mem → Prop} (ha0 : a0 < 2 ^ 63) (hb0 : b0 < 2 ^ 63) (h : post (lN ((if a4 = 0 then a0 else b0) / Nat.gcd a0 b0)) σ) : ∀ j a b, b < 2 ^ j → a < 2 ^ 63 → b < 2 ^ 63 → 0 < Nat.gcd a b → Nat.gcd a b = Nat.gcd a0 b0 → ∃ n, it2 (qX4_lowest_L6 (lN a0) (lN b0) a4 post) n (lN a) (lN b) σ := by
  have zero : ∀ a, a < 2 ^ 63 → 0 < a → a = Nat.gcd a0 b0 → ∀ K, qX4_lowest_L6 (lN a0) (lN b0) a4 post K (lN a) (lN 0) σ := by
    intro a ha hp hg K
    unfold qX4_lowest_L6 qX4_lowest_B41
    have nz : ¬ lN a = 0 := lN_ne0 hp ha
    rw [pk_lDiv ha0 hp ha, pk_lDiv hb0 hp ha]
    rw [← hg] at h
    refine ⟨fun _ => ⟨fun c => ⟨nz, ?_⟩, fun c => ⟨nz, ?_⟩⟩, fun z => absurd ((lg_cmp_eq _ _).mpr rfl) z⟩
    · rw [if_neg c] at h; exact h
    · rw [if_pos c] at h; exact h
  have step : ∀ a b K, a < 2 ^ 63 → 0 < b → b < 2 ^ 63 → K (lN b) (lN (a % b)) σ → qX4_lowest_L6 (lN a0) (lN b0) a4 post K (lN a) (lN b) σ := by
    intro a b K ha hb hb2 hK
    unfold qX4_lowest_L6
    have nz := lN_ne0 hb hb2
    refine ⟨fun z => absurd ((lg_cmp_eq _ _).mp z) nz, fun _ => ⟨nz, ?_⟩⟩
    rw [pk_lRem ha hb hb2]
    rintro _ rfl
    exact hK
  intro j
  induction j with
  | zero =>
    intro a b h1 h3 h4 h5 h6
    have : b = 0 := by
      have e : 2 ^ 0 = 1 := rfl
      omega
    subst this
    rw [Nat.gcd_zero_right] at h5 h6
    exact ⟨1, zero a h3 h5 h6 _⟩
  | succ j ih =>
    intro a b h1 h3 h4 h5 h6
    rcases Nat.eq_zero_or_pos b with z | z
    · subst z
      rw [Nat.gcd_zero_right] at h5 h6
      exact ⟨1, zero a h3 h5 h6 _⟩
    · have hr := Nat.mod_lt a z
      rcases Nat.eq_zero_or_pos (a % b) with y | y
      · have g1 := gcd_step a b
        rw [y, Nat.gcd_zero_right] at g1
        refine ⟨2, step a b _ h3 z h4 ?_⟩
        rw [y]
        exact zero b h4 z (by rw [g1]; exact h6) _
      · have hh := half_mod y hr
        have e : 2 ^ (j + 1) = 2 * 2 ^ j := by rw [Nat.pow_succ]; omega
        have g1 := gcd_step a b
        have g2 := gcd_step b (a % b)
        obtain ⟨n, hn⟩ := ih (a % b) (b % (a % b)) (by omega) (by omega) (by omega) (by rw [g2, g1]; exact h5) (by rw [g2, g1]; exact h6)
        exact ⟨n + 2, step a b _ h3 z h4 (step b (a % b) _ h4 y (by omega) hn)⟩
theorem s4_lowest {a b : Nat} {a4 : Int32} {σ : Mem} {post : Int64 → Mem → Prop} (ha : a < 2 ^ 63) (h0 : 0 < b) (hb : b ≤ 100000000) (h : post (lN ((if a4 = 0 then a else b) / Nat.gcd a b)) σ) : qX4_lowest (lN a) (lN b) a4 σ post := by
  unfold qX4_lowest
  exact low_loop ha (by omega) h 27 a b (by omega) ha (by omega) (Nat.gcd_pos_of_pos_right a h0) rfl
theorem effT_1 {W A t : Nat} {ρ : Mem} (h : Vd W A t ρ) : effT (-4) (-4) 1 ρ = if ¬ 100 ≤ o_due ρ then 0 else o_due ρ := by
  obtain ⟨-, -, v3, v4, v5, v6, -, -, v9⟩ := h
  unfold effT o_due
  by_cases c : ρ 0 7 ≤ 0
  · rw [if_pos c, if_pos c]
    split <;> rfl
  · rw [if_neg c, if_neg c]
    have hA : 0 < A := by
      rcases Nat.eq_zero_or_pos A with z | z
      · rw [v3, z] at c; exact absurd (Int32.le_refl 0) c
      · exact z
    have hl := Nat.mod_lt t hA
    rw [v3, v5, remI_nI (by omega) hA (by omega), tn_nI (by omega)]
    obtain ⟨x, ex, hx⟩ := v9 _ hl
    rw [if_neg (ne_m4 (by omega)), ex, effA]
    by_cases c1 : (100 : Int32) ≤ nI x
    · have nn : ¬ (200 ≤ nI x ∧ nI x - 200 = -4) := by
        rintro ⟨c2, c3⟩
        have hx2 : 200 ≤ x := (nI_le_iff (a := 200) (by decide) (by omega)).mp c2
        rw [show (200 : Int32) = nI 200 from rfl, pk_sub hx2] at c3
        exact ne_m4 (by omega) c3
      have n2 : ¬ ¬ (100 : Int32) ≤ nI x := fun z => z c1
      rw [if_pos c1, if_neg nn, if_neg n2]
    · rw [if_neg c1, if_pos c1, if_neg (by decide)]
def sL (val : Nat → Nat) : Nat → Nat
  | 0 => 0
  | u + 1 => sL val u + val u
theorem sL_le {val : Nat → Nat} {B : Nat} (h : ∀ u, val u ≤ B) : ∀ k, sL val k ≤ k * B
  | 0 => Nat.zero_le _
  | k + 1 => by
    have := sL_le h k
    have := h k
    rw [sL, Nat.add_mul]
    omega
theorem s4_byFails {W A t p m : Nat} {a3 a4 : Int32} {val : Nat → Nat} {τ ρ : Mem} {post : Int64 → Mem → Prop} (hp : p ≤ 10) (hm : m ≤ 8) (v : Vd W A t ρ) (ht : t < 10000) (s : Sm 0 W A τ ρ (τ 1 37) (τ 1 38)) (h14 : τ 0 14 = -4) (h15 : τ 0 15 = -4) (hB : ∀ u, val u ≤ 100000000000) (hv : ∀ u, (a3 = 0 ∧ ((frn u m ρ 0 11 = 0 ∧ val u = wtN p u m) ∨ (¬ frn u m ρ 0 11 = 0 ∧ val u = 0))) ∨ (a3 = 1 ∧ ∃ d, d < 2147483648 ∧ frn u m ρ 0 10 = nI d ∧ val u = wtN p u m * d)) (h : ∀ τ', Qm τ τ' → post (lN ((if a4 = 0 then sL val (2 ^ m) else 10 ^ m) / Nat.gcd (sL val (2 ^ m)) (10 ^ m))) τ') : qX4_byFails (nI p) (nI m) a3 a4 τ post := by
  have hW := v.2.1
  have hA := v.2.2.2.1
  have h2m : 2 ^ m ≤ 256 := Nat.pow_le_pow_right (n := 2) (by decide) hm
  have hsh := sh_lt m (by omega)
  have hsL := sL_le hB (2 ^ m)
  have hsL2 : sL val (2 ^ m) ≤ 25600000000000 := Nat.le_trans hsL (by omega)
  unfold qX4_byFails
  refine it3_inv m (fun k y5 y7 y9 τ' => y5 = 0 ∧ y7 = lN (10 ^ k) ∧ y9 = nI k ∧ τ' = τ) (fun k hk y5 y7 y9 τ' hI K hK => ?_) (fun y5 y7 y9 τ' hI K => ?_) 0 1 0 τ ⟨rfl, rfl, nI_0.symm, rfl⟩
  · obtain ⟨rfl, rfl, rfl, rfl⟩ := hI
    unfold qX4_byFails_L9
    rw [show (10 : Int64) = lN 10 from rfl, lN_mul, nI_1]
    refine ⟨fun r => absurd ((nI_le_iff (by omega) (by omega)).mp r) (by omega), fun _ => ?_⟩
    rintro _ rfl _ rfl
    exact hK _ _ _ _ ⟨rfl, by rw [Nat.pow_succ], rfl, rfl⟩
  · obtain ⟨rfl, rfl, rfl, rfl⟩ := hI
    unfold qX4_byFails_L9
    refine ⟨fun _ => ?_, fun r => absurd (Int32.le_refl _) r⟩
    refine it3_inv (2 ^ m) (fun u y5 y7 y9 τ2 => y5 = lN (sL val u) ∧ y7 = lN (10 ^ m) ∧ y9 = nI u ∧ Qm τ' τ2) (fun u hu y5 y7 y9 τ2 hI K' hK' => ?_) (fun y5 y7 y9 τ2 hI K' => ?_) 0 (lN (10 ^ m)) 0 τ' ⟨rfl, rfl, nI_0.symm, Qm.rf⟩
    · obtain ⟨rfl, rfl, rfl, q⟩ := hI
      unfold qX4_byFails_L32
      rw [hsh]
      refine ⟨fun r => absurd ((nI_le_iff (by omega) (by omega)).mp r) (by omega), fun _ => ?_⟩
      have sq : Sm 0 W A τ2 ρ (τ' 1 37) (τ' 1 38) := s.copy hW hA (fun i hi => q.1 _ (by omega))
      refine copy156 hW hA sq (fun τ3 s3 g3 => ?_)
      refine it5_inv m (fun k z5 z7 z9 z10 z12 τ4 => z5 = lN (sL val u) ∧ z7 = lN (10 ^ m) ∧ z9 = nI u ∧ z10 = lN (wtN p u k) ∧ z12 = nI k ∧ Sm 156 W A τ4 (frn u k ρ) (τ' 1 37) (τ' 1 38) ∧ Fm 156 τ2 τ4) (fun k hk z5 z7 z9 z10 z12 τ4 hI K2 hK2 => ?_) (fun z5 z7 z9 z10 z12 τ4 hI K2 => ?_) _ _ (nI u) 1 0 τ3 ⟨rfl, rfl, rfl, rfl, nI_0.symm, s3, g3⟩
      · obtain ⟨rfl, rfl, rfl, rfl, rfl, s4, g4⟩ := hI
        have vk := frn_vd v u k (by omega)
        unfold qX4_byFails_L54
        refine ⟨fun r => absurd ((nI_le_iff (by omega) (by omega)).mp r) (by omega), fun _ => ?_⟩
        have e14 : τ4 0 14 = -4 := by rw [g4.2.1 14 (by decide) (by decide), q.2.2 14 (by decide) (by decide)]; exact h14
        have e15 : τ4 0 15 = -4 := by rw [g4.2.1 15 (by decide) (by decide), q.2.2 15 (by decide) (by decide)]; exact h15
        have go : ∀ (fl : Int32) (z : Nat), effT (-4) (-4) fl (frn u k ρ) = actX u k (frn u k ρ) → wtN p u k * z = wtN p u (k + 1) → qX4_byFails_B95 (nI p) (nI m) a3 a4 post K' K2 (lN (sL val u)) (lN (10 ^ m)) (nI u) (nI k) fl (lN (wtN p u k)) (lN z) τ4 := by
          intro fl z h1 h2
          unfold qX4_byFails_B95
          rw [lN_mul, h2]
          rintro _ rfl
          refine s4_tickOn (p := 156) (by decide) s4 vk (by omega) (fun τ5 s5 g5 _ _ => ?_)
          rw [e14, e15, h1] at s5
          rw [nI_1]
          rintro _ rfl
          exact hK2 _ _ _ _ _ _ ⟨rfl, rfl, rfl, rfl, rfl, s5, g4.tr g5⟩
        unfold qX4_byFails_B76
        rw [ten_sub hp, nI_l (by omega)]
        refine ⟨fun r => z0 (go 0 (10 - p) ?_ ?_), fun r => z1 (go 1 p ?_ ?_)⟩
        · rw [effT_due vk, actX, if_neg (fun z => r z.1)]
        · rw [wtN, btI, if_neg r]
        · rw [effT_1 vk, actX]
          by_cases c : (100 : Int32) ≤ o_due (frn u k ρ)
          · rw [if_neg (fun z => z c), if_neg (fun z => z.2 c)]
          · rw [if_pos c, if_pos ⟨r, c⟩]
        · rw [wtN, btI, if_pos r]
      · obtain ⟨rfl, rfl, rfl, rfl, rfl, s4, g4⟩ := hI
        unfold qX4_byFails_L54 qX4_byFails_B152
        have q4 := q.tr (g4.q (by decide))
        have e38 : τ4 1 38 = τ' 1 38 := q4.1 38 (by decide)
        have e37 : τ4 1 37 = τ' 1 37 := q4.1 37 (by decide)
        have e193 : τ4 1 193 = frn u m ρ 0 10 + τ' 1 37 := s4.2.2.2.2.2.1
        refine ⟨fun _ => ⟨fun c => ?_, fun c => ?_⟩, fun r => absurd (Int32.le_refl _) r⟩
        · rcases hv u with ⟨-, g⟩ | ⟨g, -⟩
          · refine s4_lackThen (τ := τ') s4 e38 ⟨fun r => ?_, fun r => ?_⟩
            · rcases g with ⟨g1, g2⟩ | ⟨g1, g2⟩
              · exact absurd g1 r
              · rw [show (0 : Int32).toInt64 = lN 0 from rfl, lN_mul, lN_add, nI_1]
                rintro _ rfl _ rfl
                exact hK' _ _ _ _ ⟨by rw [sL, g2, Nat.mul_zero], rfl, rfl, q4⟩
            · rcases g with ⟨g1, g2⟩ | ⟨g1, g2⟩
              · rw [show (1 : Int32).toInt64 = lN 1 from rfl, lN_mul, lN_add, nI_1]
                rintro _ rfl _ rfl
                exact hK' _ _ _ _ ⟨by rw [sL, g2, Nat.mul_one], rfl, rfl, q4⟩
              · exact absurd r g1
          · rw [g] at c; exact absurd c (by decide)
        · rcases hv u with ⟨g, -⟩ | ⟨-, d, hd, g1, g2⟩
          · exact absurd g c
          · rw [tl193, tl37, e193, e37, Int32.add_sub_cancel, g1, nI_l hd, lN_mul, lN_add, nI_1]
            refine ⟨vl193_234, vl37_234, ?_⟩
            rintro _ rfl _ rfl
            exact hK' _ _ _ _ ⟨by rw [sL, g2], rfl, rfl, q4⟩
    · obtain ⟨rfl, rfl, rfl, q⟩ := hI
      unfold qX4_byFails_L32
      rw [hsh]
      exact ⟨fun _ => s4_lowest (by omega) (Nat.pow_pos (by decide)) (p10 hm) (h τ2 q), fun r => absurd (Int32.le_refl _) r⟩
theorem s3_asksOdds {a0 a1 a2 : Int32} {σ : Mem} {post : Int32 → Mem → Prop} (h1 : ¬ a0 < 0 → ¬ 10 < a0 → ¬ a1 < 0 → ¬ 8 < a1 → ¬ a2 < 0 → ¬ 1 < a2 → post 1 σ) (h0 : ((a0 < 0 ∨ 10 < a0) ∨ (a1 < 0 ∨ 8 < a1) ∨ (a2 < 0 ∨ 1 < a2)) → post 0 σ) : qX3_asksOdds a0 a1 a2 σ post := by
  unfold qX3_asksOdds qX3_asksOdds_B33 qX3_asksOdds_B34
  exact s3_within (fun c1 c2 => z1 (s3_within (fun c3 c4 => z1 (s3_within (fun c5 c6 => z1 ⟨isB_1, h1 c1 c2 c3 c4 c5 c6⟩) (fun c => z0 ⟨isB_0, h0 (Or.inr (Or.inr c))⟩))) (fun c => z0 ⟨isB_0, h0 (Or.inr (Or.inl c))⟩))) (fun c => z0 ⟨isB_0, h0 (Or.inl c)⟩)
theorem h_luck : fp_luck fw_Rel := by
  intro n σ τ a1 a2 a3 hR hn
  have h0 := fr_0 hR
  obtain ⟨W, A, t, v, ht, hW, hA, s, b, w3, w4, x3, x4, h14, h15⟩ := q_get hR
  unfold qX3_luck
  refine s3_asksOdds (fun c1 c2 c3 c4 c5 c6 => y1 ?_) (fun c => y0 ?_)
  · have c1' := c1
    have c2' := c2
    have c3' := c3
    have c4' := c4
    obtain ⟨p, -, hp, rfl⟩ := rng_of 0 10 c1 c2 (by decide) (by decide)
    obtain ⟨m, -, hm, rfl⟩ := rng_of 0 8 c3 c4 (by decide) (by decide)
    have h2m : 2 ^ m ≤ 256 := Nat.pow_le_pow_right (n := 2) (by decide) hm
    have hsh := sh_lt m (by omega)
    generalize hval : (fun u => if frn u m (o_zero (rg 1 σ)) 0 11 = 0 then wtN p u m else 0 : Nat → Nat) = val
    have hv1 : ∀ u, frn u m (o_zero (rg 1 σ)) 0 11 = 0 → val u = wtN p u m := fun u e => by rw [← hval]; exact if_pos e
    have hv0 : ∀ u, ¬ frn u m (o_zero (rg 1 σ)) 0 11 = 0 → val u = 0 := fun u e => by rw [← hval]; exact if_neg e
    have hB : ∀ u, val u ≤ 100000000000 := fun u => by
      have h1 := wtN_le hp u m
      have h2 := p10 hm
      by_cases e : frn u m (o_zero (rg 1 σ)) 0 11 = 0
      · rw [hv1 u e]; omega
      · rw [hv0 u e]; omega
    have hsL := sL_le hB (2 ^ m)
    have hsL2 : sL val (2 ^ m) ≤ 25600000000000 := Nat.le_trans hsL (by omega)
    have mdl : ∀ σ', Fc 7 σ σ' → qX4_luck (nI p) (nI m) a3 τ (fun r' τ' => lN ((if a3 = 0 then sL val (2 ^ m) else 10 ^ m) / Nat.gcd (sL val (2 ^ m)) (10 ^ m)) = r' ∧ fw_Rel (n + 1) σ' τ') := by
      intro σ' f
      unfold qX4_luck qX4_luck_B48
      refine in_t (lo := 0) (hi := 10) rfl rfl c1' c2' (z1 (in_t (lo := 0) (hi := 8) rfl rfl c3' c4' (z1 (in_t (lo := 0) (hi := 1) rfl rfl c5 c6 (z1 (s4_byFails (val := val) hp hm v ht s h14 h15 hB (fun u => Or.inl ⟨rfl, ?_⟩) (fun τ' q => ⟨rfl, fr_Q hR f.q q⟩)))))))
      by_cases e : frn u m (o_zero (rg 1 σ)) 0 11 = 0
      · exact Or.inl ⟨e, hv1 u e⟩
      · exact Or.inr ⟨e, hv0 u e⟩
    refine it2_inv (2 ^ m) (fun u y4 y6 σ' => y4 = lN (sL val u) ∧ y6 = nI u ∧ Fc 7 σ σ') (fun u hu y4 y6 σ' hI K hK => ?_) (fun y4 y6 σ' hI K => ?_) 0 0 σ ⟨rfl, nI_0.symm, Fc.rf⟩
    · obtain ⟨rfl, rfl, f⟩ := hI
      unfold qX3_luck_L19
      rw [hsh]
      refine ⟨fun r => absurd ((nI_le_iff (by omega) (by omega)).mp r) (by omega), fun _ => ?_⟩
      have ez : o_zero (rg 1 σ') = o_zero (rg 1 σ) := by rw [f.q.r1]
      refine s3_runFailing (by rw [ez]; exact v) ht hm (fun σ1 e1 f1 => ?_)
      rw [ez] at e1
      have e11 : σ1 7 11 = frn u m (o_zero (rg 1 σ)) 0 11 := by rw [← e1]; rfl
      rw [e11]
      unfold qX3_luck_B56
      refine ⟨fun r => ?_, fun r => ?_⟩
      · rw [nI_1]
        rintro _ rfl
        exact hK _ _ _ ⟨by rw [sL, hv0 u r, Nat.add_zero], rfl, f.tr f1⟩
      · refine s3_weightOf hp hm ?_
        rw [lN_add, nI_1]
        rintro _ rfl _ rfl
        exact hK _ _ _ ⟨by rw [sL, hv1 u r], rfl, f.tr f1⟩
    · obtain ⟨rfl, rfl, f⟩ := hI
      unfold qX3_luck_L19
      rw [hsh]
      exact ⟨fun _ => s3_allWeights hm (s3_partOfFraction (by omega) (Nat.pow_pos (by decide)) (p10 hm) (mdl σ' f)), fun r => absurd (Int32.le_refl _) r⟩
  · unfold qX4_luck qX4_luck_B45 qX4_luck_B48
    rcases c with c | c | c
    · exact in_f (lo := 0) (hi := 10) rfl rfl c (z0 ⟨rfl, h0⟩)
    · exact s4_in (lo := 0) (hi := 10) rfl rfl (fun _ _ => z1 (in_f (lo := 0) (hi := 8) rfl rfl c (z0 ⟨rfl, h0⟩))) (fun _ => z0 ⟨rfl, h0⟩)
    · exact s4_in (lo := 0) (hi := 10) rfl rfl (fun _ _ => z1 (s4_in (lo := 0) (hi := 8) rfl rfl (fun _ _ => z1 (in_f (lo := 0) (hi := 1) rfl rfl c (z0 ⟨rfl, h0⟩))) (fun _ => z0 ⟨rfl, h0⟩))) (fun _ => z0 ⟨rfl, h0⟩)
theorem h_mean : fp_mean fw_Rel := by
  intro n σ τ a1 a2 a3 hR hn
  have h0 := fr_0 hR
  obtain ⟨W, A, t, v, ht, hW, hA, s, b, w3, w4, x3, x4, h14, h15⟩ := q_get hR
  unfold qX3_mean
  refine s3_asksOdds (fun c1 c2 c3 c4 c5 c6 => y1 ?_) (fun c => y0 ?_)
  · have c1' := c1
    have c2' := c2
    have c3' := c3
    have c4' := c4
    obtain ⟨p, -, hp, rfl⟩ := rng_of 0 10 c1 c2 (by decide) (by decide)
    obtain ⟨m, -, hm, rfl⟩ := rng_of 0 8 c3 c4 (by decide) (by decide)
    have h2m : 2 ^ m ≤ 256 := Nat.pow_le_pow_right (n := 2) (by decide) hm
    have hsh := sh_lt m (by omega)
    have hd : ∀ u, ∃ y, y ≤ 792 ∧ frn u m (o_zero (rg 1 σ)) 0 10 = nI y := fun u => by
      obtain ⟨y, hy, ey⟩ := frn_done b v (zero10 _) u m (by omega) (by omega)
      exact ⟨y, by omega, ey⟩
    generalize hval : (fun u => wtN p u m * (frn u m (o_zero (rg 1 σ)) 0 10).toNatClampNeg : Nat → Nat) = val
    have hv1 : ∀ u y, frn u m (o_zero (rg 1 σ)) 0 10 = nI y → y ≤ 792 → val u = wtN p u m * y := fun u y e hy => by
      rw [← hval]
      show wtN p u m * (frn u m (o_zero (rg 1 σ)) 0 10).toNatClampNeg = _
      rw [e, tn_nI (by omega)]
    have hB : ∀ u, val u ≤ 100000000000 := fun u => by
      have h1 := wtN_le hp u m
      have h2 := p10 hm
      obtain ⟨y, hy, ey⟩ := hd u
      rw [hv1 u y ey hy]
      calc wtN p u m * y ≤ 100000000 * 792 := Nat.mul_le_mul (by omega) hy
        _ ≤ 100000000000 := by decide
    have hsL := sL_le hB (2 ^ m)
    have hsL2 : sL val (2 ^ m) ≤ 25600000000000 := Nat.le_trans hsL (by omega)
    have mdl : ∀ σ', Fc 7 σ σ' → qX4_mean (nI p) (nI m) a3 τ (fun r' τ' => lN ((if a3 = 0 then sL val (2 ^ m) else 10 ^ m) / Nat.gcd (sL val (2 ^ m)) (10 ^ m)) = r' ∧ fw_Rel (n + 1) σ' τ') := by
      intro σ' f
      unfold qX4_mean qX4_mean_B48
      refine in_t (lo := 0) (hi := 10) rfl rfl c1' c2' (z1 (in_t (lo := 0) (hi := 8) rfl rfl c3' c4' (z1 (in_t (lo := 0) (hi := 1) rfl rfl c5 c6 (z1 (s4_byFails (val := val) hp hm v ht s h14 h15 hB (fun u => Or.inr ⟨rfl, ?_⟩) (fun τ' q => ⟨rfl, fr_Q hR f.q q⟩)))))))
      obtain ⟨y, hy, ey⟩ := hd u
      exact ⟨y, by omega, ey, hv1 u y ey hy⟩
    refine it2_inv (2 ^ m) (fun u y4 y6 σ' => y4 = lN (sL val u) ∧ y6 = nI u ∧ Fc 7 σ σ') (fun u hu y4 y6 σ' hI K hK => ?_) (fun y4 y6 σ' hI K => ?_) 0 0 σ ⟨rfl, nI_0.symm, Fc.rf⟩
    · obtain ⟨rfl, rfl, f⟩ := hI
      unfold qX3_mean_L19
      rw [hsh]
      refine ⟨fun r => absurd ((nI_le_iff (by omega) (by omega)).mp r) (by omega), fun _ => ?_⟩
      have ez : o_zero (rg 1 σ') = o_zero (rg 1 σ) := by rw [f.q.r1]
      refine s3_runFailing (by rw [ez]; exact v) ht hm (fun σ1 e1 f1 => s3_weightOf hp hm ?_)
      rw [ez] at e1
      obtain ⟨y, hy, ey⟩ := hd u
      have e10 : σ1 7 10 = nI y := by rw [← ey, ← e1]; rfl
      rw [e10, nI_l (by omega), lN_mul, lN_add, nI_1]
      rintro _ rfl _ rfl
      exact hK _ _ _ ⟨by rw [sL, hv1 u y ey hy, Nat.mul_comm], rfl, f.tr f1⟩
    · obtain ⟨rfl, rfl, f⟩ := hI
      unfold qX3_mean_L19
      rw [hsh]
      exact ⟨fun _ => s3_allWeights hm (s3_partOfFraction (by omega) (Nat.pow_pos (by decide)) (p10 hm) (mdl σ' f)), fun r => absurd (Int32.le_refl _) r⟩
  · unfold qX4_mean qX4_mean_B45 qX4_mean_B48
    rcases c with c | c | c
    · exact in_f (lo := 0) (hi := 10) rfl rfl c (z0 ⟨rfl, h0⟩)
    · exact s4_in (lo := 0) (hi := 10) rfl rfl (fun _ _ => z1 (in_f (lo := 0) (hi := 8) rfl rfl c (z0 ⟨rfl, h0⟩))) (fun _ => z0 ⟨rfl, h0⟩)
    · exact s4_in (lo := 0) (hi := 10) rfl rfl (fun _ _ => z1 (s4_in (lo := 0) (hi := 8) rfl rfl (fun _ _ => z1 (in_f (lo := 0) (hi := 1) rfl rfl c (z0 ⟨rfl, h0⟩))) (fun _ => z0 ⟨rfl, h0⟩))) (fun _ => z0 ⟨rfl, h0⟩)
