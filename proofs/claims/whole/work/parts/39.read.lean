/-! PURE, 10: lay, read -/
def fvl (b : Nat) (a p : Int32) (σ : Mem) : Int32 := if σ b 0 = 0 then 1 else if a = σ b 1 then (if p < 0 ∨ σ b 2 ≤ p then 2 else 0) else 3
theorem s1_faultAt {b : Nat} {a p : Int32} {σ : Mem} {post : Int32 → Mem → Prop} (h : post (fvl b a p σ) σ) : qX1_faultAt b a p σ post := by
  unfold qX1_faultAt qX1_faultAt_B35 qX1_faultAt_B36
  unfold fvl at h
  refine ⟨fun c => ⟨fun d => ⟨fun e => ?_, fun e => ⟨fun g => ?_, fun g => ?_⟩⟩, fun d => ?_⟩, fun c => ?_⟩
  · rw [if_neg c, if_pos d, if_pos (Or.inl e)] at h; exact h
  · rw [if_neg c, if_pos d, if_pos (Or.inr g)] at h; exact h
  · rw [if_neg c, if_pos d, if_neg (by rintro (z | z); exact e z; exact g z)] at h; exact h
  · rw [if_neg c, if_neg d] at h; exact h
  · rw [if_pos c] at h; exact h
theorem ne_m4 {n : Nat} (hn : n < 2147483648) : ¬ nI n = -4 := by
  intro z
  have z2 := congrArg Int32.toInt z
  rw [nI_toInt hn] at z2
  have : (-4 : Int32).toInt = -4 := rfl
  omega
theorem h_lay : fp_lay fw_Rel := by
  intro n σ τ a1 a2 a3 hR hn
  have h0 := fr_0 hR
  unfold qX3_lay
  refine s3_within (fun c1 c2 => y1 ?_) (fun c => y0 ?_)
  · have c1' := c1
    have c2' := c2
    obtain ⟨k, -, hk, rfl⟩ := rng_of 0 3 c1 c2 (by decide) (by decide)
    have hin : vp_in (nI k) 4 := in_nI (by omega) (by decide)
    rw [tn_nI (by omega)]
    refine ⟨hin, s1_faultAt ?_⟩
    rcases hR.2.2.2.2.2.1 k (by omega) with ⟨q1, q2⟩ | ⟨q, ln, sz, l2, l3, l4, l5, l6, l7, l8⟩
    · have e : fvl (36 + 2 * k) (σ (36 + 2 * k) 1) a2 σ = 1 := by rw [fvl, if_pos q1]
      rw [e]
      refine z1 ?_
      unfold qX4_lay
      refine in_t (lo := 0) (hi := 3) rfl rfl c1' c2' (y1 ⟨hin, ?_⟩)
      rw [tn_nI (by omega), q2]
      exact ⟨fun z => absurd rfl z, fun _ => ⟨rfl, h0⟩⟩
    · by_cases c : a2 < 0 ∨ nI sz ≤ a2
      · have e : fvl (36 + 2 * k) (σ (36 + 2 * k) 1) a2 σ = 2 := by rw [fvl, if_neg q, if_pos rfl, if_pos (by rw [l6]; exact c)]
        rw [e]
        refine ⟨fun z => absurd z (by decide), fun _ => ?_⟩
        unfold qX4_lay
        refine in_t (lo := 0) (hi := 3) rfl rfl c1' c2' (y1 ⟨hin, ?_⟩)
        rw [tn_nI (by omega), l5, l7]
        refine ⟨fun _ => ?_, fun z => absurd z (ne_m4 (by omega))⟩
        refine in_f (lo := 0) (hi := nI sz - 1) rfl rfl (c.imp id (pred_lt (by omega) a2).mpr) (y0 ⟨rfl, h0⟩)
      · have e : fvl (36 + 2 * k) (σ (36 + 2 * k) 1) a2 σ = 0 := by rw [fvl, if_neg q, if_pos rfl, if_neg (by rw [l6]; exact c)]
        rw [e]
        refine z0 ?_
        have d1 : ¬ a2 < 0 := fun z => c (Or.inl z)
        have d2 : ¬ nI sz ≤ a2 := fun z => c (Or.inr z)
        have d3 : ¬ nI sz - 1 < a2 := fun z => d2 ((pred_lt (by omega) a2).mp z)
        have d1' := d1
        have d2' := d2
        obtain ⟨i, hi, rfl⟩ := idx_of d1 d2 (by omega)
        have fin : ∀ x : Int32, fw_Rel (n + 1) (up2 σ (36 + 2 * k + 1) i x) (up2 τ 11 (40 * k + i) x) := by
          intro x
          refine fr_6 hR (fun j hj => ?_) (fun c hc => rd_c (by omega)) (fun c _ _ h3 => rd_c h3)
          rw [rd_c (show 36 + 2 * j ≠ 36 + 2 * k + 1 by omega), rd_c (show 9 ≠ 11 by decide), rd_c (show 10 ≠ 11 by decide)]
          rcases hR.2.2.2.2.2.1 j hj with q | ⟨q, ln', sz', m2, m3, m4, m5, m6, m7, m8⟩
          · exact Or.inl q
          · exact Or.inr ⟨q, ln', sz', m2, m3, m4, m5, m6, m7, fun a ha => up_eq x (m8 a ha) (by omega)⟩
        have go : ∀ x : Int32, ((ln = 0 ∧ x = a3.toInt8.toInt32) ∨ (ln = 1 ∧ x = a3.toInt16.toInt32) ∨ (ln = 2 ∧ x = a3)) → qX4_lay (nI k) (nI i) a3 τ (fun r' τ' => 1 = r' ∧ fw_Rel (n + 1) (up2 σ (36 + 2 * k + 1) i x) τ') := by
          intro x hx
          unfold qX4_lay
          refine in_t (lo := 0) (hi := 3) rfl rfl c1' c2' (y1 ⟨hin, ?_⟩)
          rw [tn_nI (by omega), l7, l5]
          refine ⟨fun _ => ?_, fun z => absurd z (ne_m4 (by omega))⟩
          refine in_t (lo := 0) (hi := nI sz - 1) rfl rfl d1' d3 (y1 ?_)
          rw [l5]
          unfold qX4_lay_B99
          rw [show (40 : Int32) = nI 40 from rfl, pk_mul, nI_add, tn_nI (by omega), sh8, sh16]
          have hin2 : vp_in (nI (40 * k + i)) 160 := in_nI (by omega) (by decide)
          rcases hx with ⟨rfl, rfl⟩ | ⟨rfl, rfl⟩ | ⟨rfl, rfl⟩
          · refine ⟨fun z => absurd rfl z, fun _ => ⟨hin2, ?_⟩⟩
            rintro _ rfl
            exact ⟨rfl, fin _⟩
          · refine ⟨fun _ => ⟨fun z => absurd rfl z, fun _ => ⟨hin2, ?_⟩⟩, fun z => absurd z (by decide)⟩
            rintro _ rfl
            exact ⟨rfl, fin _⟩
          · refine ⟨fun _ => ⟨fun _ => ⟨hin2, ?_⟩, fun z => absurd z (by decide)⟩, fun z => absurd z (by decide)⟩
            rintro _ rfl
            exact ⟨rfl, fin _⟩
        unfold qX1_write qX1_write_B44
        rw [l4, tn_nI (by omega)]
        have hin3 : vp_in (nI i) 40 := in_nI (by omega) (by decide)
        have hl : ln = 0 ∨ ln = 1 ∨ ln = 2 := by omega
        rcases hl with rfl | rfl | rfl
        · refine ⟨fun z => absurd rfl z, fun _ => ⟨hin3, ?_⟩⟩
          rintro _ rfl
          exact go _ (Or.inl ⟨rfl, rfl⟩)
        · refine ⟨fun _ => ⟨fun z => absurd rfl z, fun _ => ⟨hin3, ?_⟩⟩, fun z => absurd z (by decide)⟩
          rintro _ rfl
          exact go _ (Or.inr (Or.inl ⟨rfl, rfl⟩))
        · refine ⟨fun _ => ⟨fun _ => ⟨hin3, ?_⟩, fun z => absurd z (by decide)⟩, fun z => absurd z (by decide)⟩
          rintro _ rfl
          exact go _ (Or.inr (Or.inr ⟨rfl, rfl⟩))
  · unfold qX4_lay
    exact in_f (lo := 0) (hi := 3) rfl rfl c (y0 ⟨rfl, h0⟩)
theorem pos_iff {a3 : Int32} {i sz : Nat} (hi : i ≤ 40) (hs : sz ≤ 40) : ((a3 + nI i) < 0 ∨ nI sz ≤ a3 + nI i) ↔ (a3.toInt + i < 0 ∨ (sz : Int) ≤ a3.toInt + i) := by
  have h1 := i32_rng a3
  rw [i32_lt, i32_le, Int32.toInt_add, nI_toInt (by omega), nI_toInt (by omega), show (0 : Int32).toInt = 0 from rfl, Int.bmod_def]
  split <;> omega
theorem in64 {a3 : Int32} {i sz : Nat} {τ : Mem} {post : Int32 → Mem → Prop} (hi : i ≤ 40) (hs : sz ≤ 40) (h1 : ¬ (a3 + nI i < 0 ∨ nI sz ≤ a3 + nI i) → post 1 τ) (h0 : (a3 + nI i < 0 ∨ nI sz ≤ a3 + nI i) → post 0 τ) : qX4_in (a3.toInt64 + (nI i).toInt64) 0 ((nI sz - 1).toInt64) τ post := by
  have e1 : (a3.toInt64 + (nI i).toInt64).toInt = a3.toInt + i := by
    have := i32_rng a3
    rw [Int64.toInt_add, Int32.toInt_toInt64, Int32.toInt_toInt64, nI_toInt (by omega), Int.bmod_eq_of_le (by omega) (by omega)]
  have e2 : ((nI sz - 1).toInt64).toInt = (sz : Int) - 1 := by
    rw [Int32.toInt_toInt64, show (1 : Int32) = nI 1 from rfl]
    exact pk_sub_toInt (by omega) (by decide)
  unfold qX4_in qX4_in_B17 qX4_in_B18
  rw [lg_lt0, lg_gt0, Int64.lt_iff_toInt_lt, Int64.lt_iff_toInt_lt, e1, e2, show (0 : Int64).toInt = 0 from rfl]
  rw [pos_iff hi hs] at h1 h0
  exact ⟨fun c => ⟨isB_0, h0 (Or.inl c)⟩, fun c => ⟨fun d => ⟨isB_0, h0 (Or.inr (by omega))⟩, fun d => ⟨isB_1, h1 (by omega)⟩⟩⟩
/-- the reference finds the same fault -/
theorem m_fault {k i : Nat} {a2 a3 a4 x6 : Int32} {σ τ τ' : Mem} {post : Int32 → Mem → Prop} {K : Int32 → Int32 → Int32 → Mem → Prop} (r6 : R6 σ τ) (e9 : τ' 9 = τ 9) (e10 : τ' 10 = τ 10) (hk : k < 4) (hi : i ≤ 40) (c : ¬ a4 ≤ nI i) (h : qX4_read_B123 (nI k) a2 a3 a4 post K x6 (nI i) (fvl (36 + 2 * k) a2 (a3 + nI i) σ) τ') : qX4_read_L55 (nI k) a2 a3 a4 post K 0 x6 (nI i) τ' := by
  unfold qX4_read_L55
  refine ⟨fun z => absurd z c, fun _ => y0 ⟨in_nI (by omega) (by decide), ?_⟩⟩
  rw [tn_nI (by omega), e9, e10]
  rcases r6 k hk with ⟨q1, q2⟩ | ⟨q, ln, sz, l2, l3, l4, l5, l6, l7, l8⟩
  · rw [q2]
    refine ⟨fun z => absurd rfl z, fun _ => ?_⟩
    rw [fvl, if_pos q1] at h
    exact h
  · rw [l5, l7]
    rw [fvl, if_neg q, l4, l6] at h
    refine ⟨fun _ => ⟨fun d => ?_, fun d => ?_⟩, fun z => absurd z (ne_m4 (by omega))⟩
    · rw [if_pos d.symm] at h
      refine in64 hi l3 (fun g => y1 ?_) (fun g => y0 ?_)
      · rw [if_neg g] at h; exact h
      · rw [if_pos g] at h; exact h
    · rw [if_neg (fun z => d z.symm)] at h
      exact h
/-- acts put at the end, one after another -/
def o_app (A : Nat) (c : Nat → Int32) : Nat → Mem → Mem
  | 0, ρ => ρ
  | i + 1, ρ => up2 (up2 (o_app A c i ρ) 5 (A + i) (c i)) 0 7 (nI (A + i + 1))
theorem app_rest (A : Nat) (c : Nat → Int32) (ρ : Mem) : ∀ i, (∀ k, k ≠ 7 → o_app A c i ρ 0 k = ρ 0 k) ∧ o_app A c i ρ 1 = ρ 1 ∧ o_app A c i ρ 2 = ρ 2 ∧ o_app A c i ρ 3 = ρ 3 ∧ o_app A c i ρ 4 = ρ 4 ∧ (∀ k, k < A → o_app A c i ρ 5 k = ρ 5 k)
  | 0 => ⟨fun _ _ => rfl, rfl, rfl, rfl, rfl, fun _ _ => rfl⟩
  | i + 1 => by
    obtain ⟨h1, h2, h3, h4, h5, h6⟩ := app_rest A c ρ i
    unfold o_app
    refine ⟨fun k hk => ?_, ?_, ?_, ?_, ?_, fun k hk => ?_⟩
    · rw [rd_ne hk, rd_cj (by decide)]; exact h1 k hk
    · rw [rd_c (by decide), rd_c (by decide)]; exact h2
    · rw [rd_c (by decide), rd_c (by decide)]; exact h3
    · rw [rd_c (by decide), rd_c (by decide)]; exact h4
    · rw [rd_c (by decide), rd_c (by decide)]; exact h5
    · rw [rd_cj (by decide), rd_ne (by omega)]; exact h6 k hk
theorem app_7 {A : Nat} {c : Nat → Int32} {ρ : Mem} (h : ρ 0 7 = nI A) : ∀ i, o_app A c i ρ 0 7 = nI (A + i)
  | 0 => h
  | i + 1 => rd_eq _ _ _ _
/-- what counts for a step of the reading -/
def gd (σ : Mem) (k A : Nat) (a2 a3 : Int32) (j : Nat) : Prop := fvl (36 + 2 * k) a2 (a3 + nI j) σ = 0 ∧ A + j < 16 ∧ ∃ x, x ≤ 203 ∧ σ (36 + 2 * k + 1) (a3 + nI j).toNatClampNeg = nI x
theorem app_ok {n W A t k S : Nat} {a2 a3 : Int32} {σ ρ : Mem} (v : Vd W A t ρ) (b : Bd W S ρ) : ∀ i, (∀ j, j < i → gd σ k A a2 a3 j) → Vd W (A + i) t (o_app A (fun j => σ (36 + 2 * k + 1) (a3 + nI j).toNatClampNeg) i ρ) ∧ Bd W S (o_app A (fun j => σ (36 + 2 * k + 1) (a3 + nI j).toNatClampNeg) i ρ)
  | 0, _ => ⟨v, b⟩
  | i + 1, h => by
    obtain ⟨g1, g2⟩ := app_ok (n := n) v b i (fun j hj => h j (by omega))
    obtain ⟨-, h2, x, hx, ex⟩ := h i (by omega)
    unfold o_app
    rw [ex]
    refine ⟨(g1.p hx).setA (A + i + 1) (by omega) (fun j j1 j2 => ?_), g2.fr rfl rfl⟩
    have : j = A + i := by omega
    subst this
    exact ⟨x, rd_eq _ _ _ _, hx⟩
theorem fvl_in {k : Nat} {a2 p : Int32} {σ τ : Mem} (r6 : R6 σ τ) (hk : k < 4) (h : fvl (36 + 2 * k) a2 p σ = 0) : ∃ j, j < 40 ∧ p = nI j ∧ ∀ i, i < 40 → τ 11 (40 * k + i) = σ (36 + 2 * k + 1) i := by
  unfold fvl at h
  rcases r6 k hk with ⟨q1, q2⟩ | ⟨q, ln, sz, l2, l3, l4, l5, l6, l7, l8⟩
  · rw [if_pos q1] at h; exact absurd h (by decide)
  · rw [if_neg q] at h
    by_cases d : a2 = σ (36 + 2 * k) 1
    · rw [if_pos d, l6] at h
      by_cases g : p < 0 ∨ nI sz ≤ p
      · rw [if_pos g] at h; exact absurd h (by decide)
      · obtain ⟨j, hj, rfl⟩ := idx_of (fun z => g (Or.inl z)) (fun z => g (Or.inr z)) (by omega)
        exact ⟨j, by omega, rfl, l8⟩
    · rw [if_neg d] at h; exact absurd h (by decide)
def Fr (τ τ' : Mem) : Prop := (∀ c, c ≠ 1 → τ' c = τ c) ∧ (∀ k, 39 ≤ k → k < 117 → τ' 1 k = τ 1 k)
theorem m_step {n W A t k S i : Nat} {a2 a3 a4 : Int32} {σ τ τ1 τ' ρ : Mem} {post : Int32 → Mem → Prop} {K : Int32 → Int32 → Int32 → Mem → Prop} (r6 : R6 σ τ) (v : Vd W A t ρ) (b : Bd W S ρ) (hk : k < 4) (hi : i < 40) (c : ¬ a4 ≤ nI i) (hg : ∀ j, j < i + 1 → gd σ k A a2 a3 j) (s : Sm 0 W (A + i) τ' (o_app A (fun j => σ (36 + 2 * k + 1) (a3 + nI j).toNatClampNeg) i ρ) 0 0) (f1 : ∀ c, c ≠ 1 → τ' c = τ c) (f2 : ∀ j, 39 ≤ j → τ' 1 j = τ1 1 j) (h : ∀ τ2, Sm 0 W (A + (i + 1)) τ2 (o_app A (fun j => σ (36 + 2 * k + 1) (a3 + nI j).toNatClampNeg) (i + 1) ρ) 0 0 → (∀ c, c ≠ 1 → τ2 c = τ c) → (∀ j, 39 ≤ j → τ2 1 j = τ1 1 j) → K 0 (nI (i + 1)) (nI (i + 1)) τ2) : qX4_read_L55 (nI k) a2 a3 a4 post K 0 (nI i) (nI i) τ' := by
  refine m_fault r6 (f1 9 (by decide)) (f1 10 (by decide)) hk (by omega) c ?_
  obtain ⟨g1, g2, x, hx, ex⟩ := hg i (by omega)
  obtain ⟨p, hp, ep, e11⟩ := fvl_in r6 hk g1
  rw [g1]
  unfold qX4_read_B123 qX4_read_B171
  refine y0 ?_
  rw [Int32.add_assoc, ep, show (40 : Int32) = nI 40 from rfl, pk_mul, nI_add]
  rintro _ rfl
  rw [tn_nI (by omega), f1 11 (by decide), e11 p hp]
  have ex2 := ex
  rw [ep, tn_nI (by omega)] at ex2
  rw [ex2]
  obtain ⟨g3, g4⟩ := app_ok (n := n) v b i (fun j hj => hg j (by omega))
  refine ⟨in_nI (by omega) (by decide), s4_adds (s.a g3) (by omega) (fun _ _ _ => ?_) (fun _ _ z => by omega) (fun z => ?_)⟩
  · refine ⟨fun _ => ?_, fun z => absurd (nI_pos' (by omega)) z⟩
    rw [nI_1]
    rintro _ rfl _ rfl
    obtain ⟨a1, a2', a3'⟩ := add_R1 g3 s g4 g2 hx
    refine h _ ?_ (fun c hc => by rw [rd_c hc, rd_c hc]; exact f1 c hc) (fun j hj => by rw [rd_ne (by omega), rd_ne (by omega)]; exact f2 j hj)
    have e : o_app A (fun j => σ (36 + 2 * k + 1) (a3 + nI j).toNatClampNeg) (i + 1) ρ = up2 (up2 (o_app A (fun j => σ (36 + 2 * k + 1) (a3 + nI j).toNatClampNeg) i ρ) 5 (A + i) (nI x)) 0 7 (nI (A + i + 1)) := by
      rw [o_app, ex]
    rw [e]
    exact a2'
  · rcases z with z | z
    · exact absurd z (nI_pos (by omega))
    · exact absurd ((nI_lt_iff (a := 203) (by decide) (by omega)).mp z) (by omega)
