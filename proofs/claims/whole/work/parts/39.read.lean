/-! PURE, 10: lay, read -/
def fvl (b : Nat) (a p : Int32) (σ : Mem) : Int32 := if σ b 0 = 0 then 1 else if a = σ b 1 then (if p < 0 ∨ σ b 2 ≤ p then 2 else 0) else 3
theorem s1_faultAt {b : Nat} {a p : Int32} {σ : Mem} {post : Int32 → Mem → Prop} (h : post (fvl b a p σ) σ) : qX1_faultAt b a p σ post := by
  unfold qX1_faultAt qX1_faultAt_B35 qX1_faultAt_B36
  unfold fvl at h
  refine ⟨fun c => ⟨fun d => ⟨fun e => ?_, fun e => ⟨fun g => ?_, fun g => ?_⟩⟩, fun d => ?_⟩, fun c => ?_⟩
  · rw [if_neg c, if_pos d, if_pos (Or.inl e)] at h; exact h
  · rw [if_neg c, if_pos d, if_pos (Or.inr g)] at h; exact h
  · rw [if_neg c, if_pos d, if_neg (by rintro (z | z); exact e z; exact g z)] at h; exact h
  · rw [if_neg c, if_neg d] at h; exact h
  · rw [if_pos c] at h; exact h
theorem ne_m4 {n : Nat} (hn : n < 2147483648) : ¬ nI n = -4 := by
  intro z
  have z2 := congrArg Int32.toInt z
  rw [nI_toInt hn] at z2
  have : (-4 : Int32).toInt = -4 := rfl
  omega
theorem h_lay : fp_lay fw_Rel := by
  intro n σ τ a1 a2 a3 hR hn
  have h0 := fr_0 hR
  unfold qX3_lay
  refine s3_within (fun c1 c2 => y1 ?_) (fun c => y0 ?_)
  · have c1' := c1
    have c2' := c2
    obtain ⟨k, -, hk, rfl⟩ := rng_of 0 3 c1 c2 (by decide) (by decide)
    have hin : vp_in (nI k) 4 := in_nI (by omega) (by decide)
    rw [tn_nI (by omega)]
    refine ⟨hin, s1_faultAt ?_⟩
    rcases hR.2.2.2.2.2.1 k (by omega) with ⟨q1, q2⟩ | ⟨q, ln, sz, l2, l3, l4, l5, l6, l7, l8⟩
    · have e : fvl (36 + 2 * k) (σ (36 + 2 * k) 1) a2 σ = 1 := by rw [fvl, if_pos q1]
      rw [e]
      refine z1 ?_
      unfold qX4_lay
      refine in_t (lo := 0) (hi := 3) rfl rfl c1' c2' (y1 ⟨hin, ?_⟩)
      rw [tn_nI (by omega), q2]
      exact ⟨fun z => absurd rfl z, fun _ => ⟨rfl, h0⟩⟩
    · by_cases c : a2 < 0 ∨ nI sz ≤ a2
      · have e : fvl (36 + 2 * k) (σ (36 + 2 * k) 1) a2 σ = 2 := by rw [fvl, if_neg q, if_pos rfl, if_pos (by rw [l6]; exact c)]
        rw [e]
        refine ⟨fun z => absurd z (by decide), fun _ => ?_⟩
        unfold qX4_lay
        refine in_t (lo := 0) (hi := 3) rfl rfl c1' c2' (y1 ⟨hin, ?_⟩)
        rw [tn_nI (by omega), l5, l7]
        refine ⟨fun _ => ?_, fun z => absurd z (ne_m4 (by omega))⟩
        refine in_f (lo := 0) (hi := nI sz - 1) rfl rfl (c.imp id (pred_lt (by omega) a2).mpr) (y0 ⟨rfl, h0⟩)
      · have e : fvl (36 + 2 * k) (σ (36 + 2 * k) 1) a2 σ = 0 := by rw [fvl, if_neg q, if_pos rfl, if_neg (by rw [l6]; exact c)]
        rw [e]
        refine z0 ?_
        have d1 : ¬ a2 < 0 := fun z => c (Or.inl z)
        have d2 : ¬ nI sz ≤ a2 := fun z => c (Or.inr z)
        have d3 : ¬ nI sz - 1 < a2 := fun z => d2 ((pred_lt (by omega) a2).mp z)
        have d1' := d1
        have d2' := d2
        obtain ⟨i, hi, rfl⟩ := idx_of d1 d2 (by omega)
        have fin : ∀ x : Int32, fw_Rel (n + 1) (up2 σ (36 + 2 * k + 1) i x) (up2 τ 11 (40 * k + i) x) := by
          intro x
          refine fr_6 hR (fun j hj => ?_) (fun c hc => rd_c (by omega)) (fun c _ _ h3 => rd_c h3)
          rw [rd_c (show 36 + 2 * j ≠ 36 + 2 * k + 1 by omega), rd_c (show 9 ≠ 11 by decide), rd_c (show 10 ≠ 11 by decide)]
          rcases hR.2.2.2.2.2.1 j hj with q | ⟨q, ln', sz', m2, m3, m4, m5, m6, m7, m8⟩
          · exact Or.inl q
          · exact Or.inr ⟨q, ln', sz', m2, m3, m4, m5, m6, m7, fun a ha => up_eq x (m8 a ha) (by omega)⟩
        have go : ∀ x : Int32, ((ln = 0 ∧ x = a3.toInt8.toInt32) ∨ (ln = 1 ∧ x = a3.toInt16.toInt32) ∨ (ln = 2 ∧ x = a3)) → qX4_lay (nI k) (nI i) a3 τ (fun r' τ' => 1 = r' ∧ fw_Rel (n + 1) (up2 σ (36 + 2 * k + 1) i x) τ') := by
          intro x hx
          unfold qX4_lay
          refine in_t (lo := 0) (hi := 3) rfl rfl c1' c2' (y1 ⟨hin, ?_⟩)
          rw [tn_nI (by omega), l7, l5]
          refine ⟨fun _ => ?_, fun z => absurd z (ne_m4 (by omega))⟩
          refine in_t (lo := 0) (hi := nI sz - 1) rfl rfl d1' d3 (y1 ?_)
          rw [l5]
          unfold qX4_lay_B99
          rw [show (40 : Int32) = nI 40 from rfl, pk_mul, nI_add, tn_nI (by omega), sh8, sh16]
          have hin2 : vp_in (nI (40 * k + i)) 160 := in_nI (by omega) (by decide)
          rcases hx with ⟨rfl, rfl⟩ | ⟨rfl, rfl⟩ | ⟨rfl, rfl⟩
          · refine ⟨fun z => absurd rfl z, fun _ => ⟨hin2, ?_⟩⟩
            rintro _ rfl
            exact ⟨rfl, fin _⟩
          · refine ⟨fun _ => ⟨fun z => absurd rfl z, fun _ => ⟨hin2, ?_⟩⟩, fun z => absurd z (by decide)⟩
            rintro _ rfl
            exact ⟨rfl, fin _⟩
          · refine ⟨fun _ => ⟨fun _ => ⟨hin2, ?_⟩, fun z => absurd z (by decide)⟩, fun z => absurd z (by decide)⟩
            rintro _ rfl
            exact ⟨rfl, fin _⟩
        unfold qX1_write qX1_write_B44
        rw [l4, tn_nI (by omega)]
        have hin3 : vp_in (nI i) 40 := in_nI (by omega) (by decide)
        have hl : ln = 0 ∨ ln = 1 ∨ ln = 2 := by omega
        rcases hl with rfl | rfl | rfl
        · refine ⟨fun z => absurd rfl z, fun _ => ⟨hin3, ?_⟩⟩
          rintro _ rfl
          exact go _ (Or.inl ⟨rfl, rfl⟩)
        · refine ⟨fun _ => ⟨fun z => absurd rfl z, fun _ => ⟨hin3, ?_⟩⟩, fun z => absurd z (by decide)⟩
          rintro _ rfl
          exact go _ (Or.inr (Or.inl ⟨rfl, rfl⟩))
        · refine ⟨fun _ => ⟨fun _ => ⟨hin3, ?_⟩, fun z => absurd z (by decide)⟩, fun z => absurd z (by decide)⟩
          rintro _ rfl
          exact go _ (Or.inr (Or.inr ⟨rfl, rfl⟩))
  · unfold qX4_lay
    exact in_f (lo := 0) (hi := 3) rfl rfl c (y0 ⟨rfl, h0⟩)
theorem pos_iff {a3 : Int32} {i sz : Nat} (hi : i ≤ 40) (hs : sz ≤ 40) : ((a3 + nI i) < 0 ∨ nI sz ≤ a3 + nI i) ↔ (a3.toInt + i < 0 ∨ (sz : Int) ≤ a3.toInt + i) := by
  have h1 := i32_rng a3
  rw [i32_lt, i32_le, Int32.toInt_add, nI_toInt (by omega), nI_toInt (by omega), show (0 : Int32).toInt = 0 from rfl, Int.bmod_def]
  split <;> omega
theorem in64 {a3 : Int32} {i sz : Nat} {τ : Mem} {post : Int32 → Mem → Prop} (hi : i ≤ 40) (hs : sz ≤ 40) (h1 : ¬ (a3 + nI i < 0 ∨ nI sz ≤ a3 + nI i) → post 1 τ) (h0 : (a3 + nI i < 0 ∨ nI sz ≤ a3 + nI i) → post 0 τ) : qX4_in (a3.toInt64 + (nI i).toInt64) 0 ((nI sz - 1).toInt64) τ post := by
  have e1 : (a3.toInt64 + (nI i).toInt64).toInt = a3.toInt + i := by
    have := i32_rng a3
    rw [Int64.toInt_add, Int32.toInt_toInt64, Int32.toInt_toInt64, nI_toInt (by omega), Int.bmod_eq_of_le (by omega) (by omega)]
  have e2 : ((nI sz - 1).toInt64).toInt = (sz : Int) - 1 := by
    rw [Int32.toInt_toInt64, show (1 : Int32) = nI 1 from rfl]
    exact pk_sub_toInt (by omega) (by decide)
  unfold qX4_in qX4_in_B17 qX4_in_B18
  rw [lg_lt0, lg_gt0, Int64.lt_iff_toInt_lt, Int64.lt_iff_toInt_lt, e1, e2, show (0 : Int64).toInt = 0 from rfl]
  rw [pos_iff hi hs] at h1 h0
  exact ⟨fun c => ⟨isB_0, h0 (Or.inl c)⟩, fun c => ⟨fun d => ⟨isB_0, h0 (Or.inr (by omega))⟩, fun d => ⟨isB_1, h1 (by omega)⟩⟩⟩
/-- the reference finds the same fault -/
theorem m_fault {k i : Nat} {a2 a3 a4 x6 : Int32} {σ τ τ' : Mem} {post : Int32 → Mem → Prop} {K : Int32 → Int32 → Int32 → Mem → Prop} (r6 : R6 σ τ) (e9 : τ' 9 = τ 9) (e10 : τ' 10 = τ 10) (hk : k < 4) (hi : i ≤ 40) (c : ¬ a4 ≤ nI i) (h : qX4_read_B123 (nI k) a2 a3 a4 post K x6 (nI i) (fvl (36 + 2 * k) a2 (a3 + nI i) σ) τ') : qX4_read_L55 (nI k) a2 a3 a4 post K 0 x6 (nI i) τ' := by
  unfold qX4_read_L55
  refine ⟨fun z => absurd z c, fun _ => y0 ⟨in_nI (by omega) (by decide), ?_⟩⟩
  rw [tn_nI (by omega), e9, e10]
  rcases r6 k hk with ⟨q1, q2⟩ | ⟨q, ln, sz, l2, l3, l4, l5, l6, l7, l8⟩
  · rw [q2]
    refine ⟨fun z => absurd rfl z, fun _ => ?_⟩
    rw [fvl, if_pos q1] at h
    exact h
  · rw [l5, l7]
    rw [fvl, if_neg q, l4, l6] at h
    refine ⟨fun _ => ⟨fun d => ?_, fun d => ?_⟩, fun z => absurd z (ne_m4 (by omega))⟩
    · rw [if_pos d.symm] at h
      refine in64 hi l3 (fun g => y1 ?_) (fun g => y0 ?_)
      · rw [if_neg g] at h; exact h
      · rw [if_pos g] at h; exact h
    · rw [if_neg (fun z => d z.symm)] at h
      exact h
/-- acts put at the end, one after another -/
def o_app (A : Nat) (c : Nat → Int32) : Nat → Mem → Mem
  | 0, ρ => ρ
  | i + 1, ρ => up2 (up2 (o_app A c i ρ) 5 (A + i) (c i)) 0 7 (nI (A + i + 1))
theorem app_rest (A : Nat) (c : Nat → Int32) (ρ : Mem) : ∀ i, (∀ k, k ≠ 7 → o_app A c i ρ 0 k = ρ 0 k) ∧ o_app A c i ρ 1 = ρ 1 ∧ o_app A c i ρ 2 = ρ 2 ∧ o_app A c i ρ 3 = ρ 3 ∧ o_app A c i ρ 4 = ρ 4 ∧ (∀ k, k < A → o_app A c i ρ 5 k = ρ 5 k)
  | 0 => ⟨fun _ _ => rfl, rfl, rfl, rfl, rfl, fun _ _ => rfl⟩
  | i + 1 => by
    obtain ⟨h1, h2, h3, h4, h5, h6⟩ := app_rest A c ρ i
    unfold o_app
    refine ⟨fun k hk => ?_, ?_, ?_, ?_, ?_, fun k hk => ?_⟩
    · rw [rd_ne hk, rd_cj (by decide)]; exact h1 k hk
    · rw [rd_c (by decide), rd_c (by decide)]; exact h2
    · rw [rd_c (by decide), rd_c (by decide)]; exact h3
    · rw [rd_c (by decide), rd_c (by decide)]; exact h4
    · rw [rd_c (by decide), rd_c (by decide)]; exact h5
    · rw [rd_cj (by decide), rd_ne (by omega)]; exact h6 k hk
theorem app_7 {A : Nat} {c : Nat → Int32} {ρ : Mem} (h : ρ 0 7 = nI A) : ∀ i, o_app A c i ρ 0 7 = nI (A + i)
  | 0 => h
  | i + 1 => rd_eq _ _ _ _
/-- what counts for a step of the reading -/
def gd (σ : Mem) (k A : Nat) (a2 a3 : Int32) (j : Nat) : Prop := fvl (36 + 2 * k) a2 (a3 + nI j) σ = 0 ∧ A + j < 16 ∧ ∃ x, x ≤ 203 ∧ σ (36 + 2 * k + 1) (a3 + nI j).toNatClampNeg = nI x
theorem app_ok {n W A t k S : Nat} {a2 a3 : Int32} {σ ρ : Mem} (v : Vd W A t ρ) (b : Bd W S ρ) : ∀ i, (∀ j, j < i → gd σ k A a2 a3 j) → Vd W (A + i) t (o_app A (fun j => σ (36 + 2 * k + 1) (a3 + nI j).toNatClampNeg) i ρ) ∧ Bd W S (o_app A (fun j => σ (36 + 2 * k + 1) (a3 + nI j).toNatClampNeg) i ρ)
  | 0, _ => ⟨v, b⟩
  | i + 1, h => by
    obtain ⟨g1, g2⟩ := app_ok (n := n) v b i (fun j hj => h j (by omega))
    obtain ⟨-, h2, x, hx, ex⟩ := h i (by omega)
    unfold o_app
    rw [ex]
    refine ⟨(g1.p hx).setA (A + i + 1) (by omega) (fun j j1 j2 => ?_), g2.fr rfl rfl⟩
    have : j = A + i := by omega
    subst this
    exact ⟨x, rd_eq _ _ _ _, hx⟩
theorem fvl_in {k : Nat} {a2 p : Int32} {σ τ : Mem} (r6 : R6 σ τ) (hk : k < 4) (h : fvl (36 + 2 * k) a2 p σ = 0) : ∃ j, j < 40 ∧ p = nI j ∧ ∀ i, i < 40 → τ 11 (40 * k + i) = σ (36 + 2 * k + 1) i := by
  unfold fvl at h
  rcases r6 k hk with ⟨q1, q2⟩ | ⟨q, ln, sz, l2, l3, l4, l5, l6, l7, l8⟩
  · rw [if_pos q1] at h; exact absurd h (by decide)
  · rw [if_neg q] at h
    by_cases d : a2 = σ (36 + 2 * k) 1
    · rw [if_pos d, l6] at h
      by_cases g : p < 0 ∨ nI sz ≤ p
      · rw [if_pos g] at h; exact absurd h (by decide)
      · obtain ⟨j, hj, rfl⟩ := idx_of (fun z => g (Or.inl z)) (fun z => g (Or.inr z)) (by omega)
        exact ⟨j, by omega, rfl, l8⟩
    · rw [if_neg d] at h; exact absurd h (by decide)
def Fr (τ τ' : Mem) : Prop := (∀ c, c ≠ 1 → τ' c = τ c) ∧ (∀ k, 39 ≤ k → k < 117 → τ' 1 k = τ 1 k)
theorem m_step {n W A t k S i : Nat} {a2 a3 a4 : Int32} {σ τ τ1 τ' ρ : Mem} {post : Int32 → Mem → Prop} {K : Int32 → Int32 → Int32 → Mem → Prop} (r6 : R6 σ τ) (v : Vd W A t ρ) (b : Bd W S ρ) (hk : k < 4) (hi : i < 40) (c : ¬ a4 ≤ nI i) (hg : ∀ j, j < i + 1 → gd σ k A a2 a3 j) (s : Sm 0 W (A + i) τ' (o_app A (fun j => σ (36 + 2 * k + 1) (a3 + nI j).toNatClampNeg) i ρ) 0 0) (f1 : ∀ c, c ≠ 1 → τ' c = τ c) (f2 : ∀ j, 39 ≤ j → τ' 1 j = τ1 1 j) (h : ∀ τ2, Sm 0 W (A + (i + 1)) τ2 (o_app A (fun j => σ (36 + 2 * k + 1) (a3 + nI j).toNatClampNeg) (i + 1) ρ) 0 0 → (∀ c, c ≠ 1 → τ2 c = τ c) → (∀ j, 39 ≤ j → τ2 1 j = τ1 1 j) → K 0 (nI (i + 1)) (nI (i + 1)) τ2) : qX4_read_L55 (nI k) a2 a3 a4 post K 0 (nI i) (nI i) τ' := by
  refine m_fault r6 (f1 9 (by decide)) (f1 10 (by decide)) hk (by omega) c ?_
  obtain ⟨g1, g2, x, hx, ex⟩ := hg i (by omega)
  obtain ⟨p, hp, ep, e11⟩ := fvl_in r6 hk g1
  rw [g1]
  unfold qX4_read_B123 qX4_read_B171
  refine y0 ?_
  rw [Int32.add_assoc, ep, show (40 : Int32) = nI 40 from rfl, pk_mul, nI_add]
  rintro _ rfl
  rw [tn_nI (by omega), f1 11 (by decide), e11 p hp]
  have ex2 := ex
  rw [ep, tn_nI (by omega)] at ex2
  rw [ex2]
  obtain ⟨g3, g4⟩ := app_ok (n := n) v b i (fun j hj => hg j (by omega))
  refine ⟨in_nI (by omega) (by decide), s4_adds (s.a g3) (by omega) (fun _ _ _ => ?_) (fun _ _ z => by omega) (fun z => ?_)⟩
  · refine ⟨fun _ => ?_, fun z => absurd (nI_pos' (by omega)) z⟩
    rw [nI_1]
    rintro _ rfl _ rfl
    obtain ⟨a1, a2', a3'⟩ := add_R1 g3 s g4 g2 hx
    refine h _ ?_ (fun c hc => by rw [rd_c hc, rd_c hc]; exact f1 c hc) (fun j hj => by rw [rd_ne (by omega), rd_ne (by omega)]; exact f2 j hj)
    have e : o_app A (fun j => σ (36 + 2 * k + 1) (a3 + nI j).toNatClampNeg) (i + 1) ρ = up2 (up2 (o_app A (fun j => σ (36 + 2 * k + 1) (a3 + nI j).toNatClampNeg) i ρ) 5 (A + i) (nI x)) 0 7 (nI (A + i + 1)) := by
      rw [o_app, ex]
    rw [e]
    exact a2'
  · rcases z with z | z
    · exact absurd z (nI_pos (by omega))
    · exact absurd ((nI_lt_iff (a := 203) (by decide) (by omega)).mp z) (by omega)
theorem m_read {n W A t k S i n4 : Nat} {a2 a3 : Int32} {σ τ ρ : Mem} {post : Int32 → Mem → Prop} (r6 : R6 σ τ) (v : Vd W A t ρ) (b : Bd W S ρ) (s : Sm 0 W A τ ρ 0 0) (hk : k < 4) (c3 : ¬ a2 < 0) (c4 : ¬ 2 < a2) (h4 : n4 ≤ 40) (hi : i ≤ n4) (hg : ∀ j, j < i → gd σ k A a2 a3 j) (X : (i = n4 ∧ ∀ τ', Sm 0 W (A + i) τ' (o_app A (fun j => σ (36 + 2 * k + 1) (a3 + nI j).toNatClampNeg) i ρ) 0 0 → Fr τ τ' → post (nI i) (up2 τ' 0 25 0)) ∨ (i < n4 ∧ ¬ fvl (36 + 2 * k) a2 (a3 + nI i) σ = 0 ∧ ∀ τ', Sm 0 W (A + i) τ' (o_app A (fun j => σ (36 + 2 * k + 1) (a3 + nI j).toNatClampNeg) i ρ) 0 0 → Fr τ τ' → post (nI i) (up2 τ' 0 25 (fvl (36 + 2 * k) a2 (a3 + nI i) σ))) ∨ (i < n4 ∧ fvl (36 + 2 * k) a2 (a3 + nI i) σ = 0 ∧ (A + i = 16 ∨ σ (36 + 2 * k + 1) (a3 + nI i).toNatClampNeg < 0 ∨ 203 < σ (36 + 2 * k + 1) (a3 + nI i).toNatClampNeg) ∧ ∀ τ', (∀ j, j < 39 → τ' 1 j = τ 1 j) → Fr τ τ' → post (-20 - nI i) τ')) : qX4_read (nI k) a2 a3 (nI n4) τ post := by
  have hW := v.2.1
  have hA := v.2.2.2.1
  unfold qX4_read
  refine in_t (lo := 0) (hi := 3) rfl rfl (nI_pos (by omega)) (fun z => absurd ((nI_lt_iff (a := 3) (by decide) (by omega)).mp z) (by omega)) (z1 (in_t (lo := 0) (hi := 2) rfl rfl c3 c4 (z1 (in_t (lo := 0) (hi := 40) rfl rfl (nI_pos (by omega)) (fun z => absurd ((nI_lt_iff (a := 40) (by decide) (by omega)).mp z) (by omega)) (y1 ?_)))))
  refine s4_copies (p := 0) (q := 117) (by decide) (by decide) (by decide) (fun τ1 e1 e2 e3 => ?_)
  have s1 : Sm 0 W A τ1 ρ 0 0 := s.copy hW hA (fun j hj => e2 _ (by omega))
  have fr : ∀ τ', (∀ c, c ≠ 1 → τ' c = τ c) → (∀ j, 39 ≤ j → τ' 1 j = τ1 1 j) → Fr τ τ' := fun τ' f1 f2 => ⟨f1, fun j j1 j2 => by rw [f2 j j1, e2 j (by omega)]⟩
  rcases X with ⟨rfl, X⟩ | ⟨hlt, hF, X⟩ | ⟨hlt, hF, hb, X⟩
  · refine it3_inv i (fun m x5 x6 x7 τ' => x5 = 0 ∧ x6 = nI m ∧ x7 = nI m ∧ Sm 0 W (A + m) τ' (o_app A (fun j => σ (36 + 2 * k + 1) (a3 + nI j).toNatClampNeg) m ρ) 0 0 ∧ (∀ c, c ≠ 1 → τ' c = τ c) ∧ (∀ j, 39 ≤ j → τ' 1 j = τ1 1 j)) (fun m hm x5 x6 x7 τ' hI K hK => ?_) (fun x5 x6 x7 τ' hI K => ?_) 0 0 0 τ1 ⟨rfl, nI_0.symm, nI_0.symm, s1, e3, fun _ _ => rfl⟩
    · obtain ⟨rfl, rfl, rfl, sm, f1, f2⟩ := hI
      exact m_step (n := n) r6 v b hk (by omega) (fun z => absurd ((nI_le_iff (by omega) (by omega)).mp z) (by omega)) (fun j hj => hg j (by omega)) sm f1 f2 (fun τ2 s2 g1 g2 => hK _ _ _ _ ⟨rfl, rfl, rfl, s2, g1, g2⟩)
    · obtain ⟨rfl, rfl, rfl, sm, f1, f2⟩ := hI
      unfold qX4_read_L55 qX4_read_B177
      refine ⟨fun _ => ?_, fun z => absurd (Int32.le_refl _) z⟩
      rintro _ rfl
      exact X τ' sm (fr τ' f1 f2)
  · refine it3_inv (i + 1) (fun m x5 x6 x7 τ' => ((m ≤ i ∧ x5 = 0 ∧ x6 = nI m ∧ x7 = nI m ∧ Sm 0 W (A + m) τ' (o_app A (fun j => σ (36 + 2 * k + 1) (a3 + nI j).toNatClampNeg) m ρ) 0 0) ∨ (m = i + 1 ∧ x5 = fvl (36 + 2 * k) a2 (a3 + nI i) σ ∧ x6 = nI i ∧ x7 = nI (i + 1) ∧ Sm 0 W (A + i) τ' (o_app A (fun j => σ (36 + 2 * k + 1) (a3 + nI j).toNatClampNeg) i ρ) 0 0)) ∧ (∀ c, c ≠ 1 → τ' c = τ c) ∧ (∀ j, 39 ≤ j → τ' 1 j = τ1 1 j)) (fun m hm x5 x6 x7 τ' hI K hK => ?_) (fun x5 x6 x7 τ' hI K => ?_) 0 0 0 τ1 ⟨Or.inl ⟨by omega, rfl, nI_0.symm, nI_0.symm, s1⟩, e3, fun _ _ => rfl⟩
    · obtain ⟨hI | hI, f1, f2⟩ := hI
      · obtain ⟨-, rfl, rfl, rfl, sm⟩ := hI
        by_cases em : m = i
        · subst em
          refine m_fault r6 (f1 9 (by decide)) (f1 10 (by decide)) hk (by omega) (fun z => absurd ((nI_le_iff (by omega) (by omega)).mp z) (by omega)) ?_
          unfold qX4_read_B123 qX4_read_B171
          refine ⟨fun _ => ?_, fun z => absurd z hF⟩
          rintro _ rfl
          exact hK _ _ _ _ ⟨Or.inr ⟨rfl, rfl, rfl, nI_1 m, sm⟩, f1, f2⟩
        · exact m_step (n := n) r6 v b hk (by omega) (fun z => absurd ((nI_le_iff (by omega) (by omega)).mp z) (by omega)) (fun j hj => hg j (by omega)) sm f1 f2 (fun τ2 s2 g1 g2 => hK _ _ _ _ ⟨Or.inl ⟨by omega, rfl, rfl, rfl, s2⟩, g1, g2⟩)
      · omega
    · obtain ⟨hI | hI, f1, f2⟩ := hI
      · omega
      · obtain ⟨-, rfl, rfl, rfl, sm⟩ := hI
        unfold qX4_read_L55 qX4_read_B177
        refine ⟨fun _ => ?_, fun _ => ⟨fun _ => ?_, fun z => absurd z hF⟩⟩
        · rintro _ rfl
          exact X τ' sm (fr τ' f1 f2)
        · rintro _ rfl
          exact X τ' sm (fr τ' f1 f2)
  · refine it3_inv i (fun m x5 x6 x7 τ' => x5 = 0 ∧ x6 = nI m ∧ x7 = nI m ∧ Sm 0 W (A + m) τ' (o_app A (fun j => σ (36 + 2 * k + 1) (a3 + nI j).toNatClampNeg) m ρ) 0 0 ∧ (∀ c, c ≠ 1 → τ' c = τ c) ∧ (∀ j, 39 ≤ j → τ' 1 j = τ1 1 j)) (fun m hm x5 x6 x7 τ' hI K hK => ?_) (fun x5 x6 x7 τ' hI K => ?_) 0 0 0 τ1 ⟨rfl, nI_0.symm, nI_0.symm, s1, e3, fun _ _ => rfl⟩
    · obtain ⟨rfl, rfl, rfl, sm, f1, f2⟩ := hI
      exact m_step (n := n) r6 v b hk (by omega) (fun z => absurd ((nI_le_iff (by omega) (by omega)).mp z) (by omega)) (fun j hj => hg j (by omega)) sm f1 f2 (fun τ2 s2 g1 g2 => hK _ _ _ _ ⟨rfl, rfl, rfl, s2, g1, g2⟩)
    · obtain ⟨rfl, rfl, rfl, sm, f1, f2⟩ := hI
      refine m_fault r6 (f1 9 (by decide)) (f1 10 (by decide)) hk (by omega) (fun z => absurd ((nI_le_iff (by omega) (by omega)).mp z) (by omega)) ?_
      obtain ⟨p, hp, ep, e11⟩ := fvl_in r6 hk hF
      rw [hF]
      unfold qX4_read_B123 qX4_read_B171
      refine y0 ?_
      rw [Int32.add_assoc, ep, show (40 : Int32) = nI 40 from rfl, pk_mul, nI_add]
      rintro _ rfl
      rw [tn_nI (by omega), f1 11 (by decide), e11 p hp]
      rw [ep, tn_nI (by omega)] at hb
      obtain ⟨g3, g4⟩ := app_ok (n := n) v b i hg
      have hA2 := g3.2.2.2.1
      have bad : ∀ τ' : Mem, (∀ c, c ≠ 1 → τ' c = τ c) → (∀ j, 39 ≤ j → τ' 1 j = τ1 1 j) → qX4_copies 117 0 τ' (fun σ159 => post (-20 - nI i) σ159) := by
        intro τ' f1 f2
        refine s4_copies (p := 117) (q := 0) (by decide) (by decide) (by decide) (fun τ2 d1 d2 d3 => ?_)
        refine X τ2 (fun j hj => ?_) ⟨fun c hc => by rw [d3 c hc, f1 c hc], fun j j1 j2 => by rw [d2 j (by omega), f2 j j1, e2 j (by omega)]⟩
        have q1 := d1 j hj
        rw [Nat.zero_add] at q1
        rw [q1, f2 _ (by omega), e1 j hj, Nat.zero_add]
      refine ⟨in_nI (by omega) (by decide), s4_adds (sm.a g3) hA2 (fun d1 d2 d3 => ?_) (fun _ _ _ => ⟨fun z => absurd z (by decide), fun _ => bad τ' f1 f2⟩) (fun _ => ⟨fun z => absurd z (by decide), fun _ => bad τ' f1 f2⟩)⟩
      rcases hb with z | z | z
      · omega
      · exact absurd z d1
      · exact absurd z d2
theorem fr_torn {n : Nat} {σ τ : Mem} (x : Int32) (h : fw_Rel n σ τ) : fw_Rel n (up2 σ 0 12 x) (up2 τ 0 25 x) := by
  obtain ⟨r1, r2, r3, r4, r5, r6, r7⟩ := h
  refine ⟨?_, fun k hk => ?_, r3, ⟨r4.1, rfl⟩, r5, r6.fr (fun c h1 h2 => rd_c (by omega)) rfl rfl rfl, r7⟩
  · unfold R1
    rw [rg_out _ _ (by omega)]
    exact Pg.fr r1 (fun _ _ => rfl)
  · obtain ⟨q1, q2⟩ := r2 k hk
    refine ⟨q1, fun c => ?_⟩
    rw [rg_out _ _ (by omega)]
    exact (q2 c).fr (fun _ _ => rfl)
theorem read_R1 {n W A t k i : Nat} {a2 a3 : Int32} {σ τ σ' τ' : Mem} (hR : fw_Rel n σ τ) (v : Vd W A t (rg 1 σ)) (ht : t < 10000) (b : Bd W (10000 * n) (rg 1 σ)) (hg : ∀ j, j < i → gd σ k A a2 a3 j) (e : rg 1 σ' = o_app A (fun j => σ (36 + 2 * k + 1) (a3 + nI j).toNatClampNeg) i (rg 1 σ)) (f : Fc 1 σ σ') (s : Sm 0 W (A + i) τ' (o_app A (fun j => σ (36 + 2 * k + 1) (a3 + nI j).toNatClampNeg) i (rg 1 σ)) 0 0) (g : Fr τ τ') : fw_Rel (n + 1) σ' τ' := by
  obtain ⟨g3, g4⟩ := app_ok (n := n) v b i hg
  refine fr_1 hR ⟨W, A + i, t, by rw [e]; exact g3, ht, by rw [e]; exact s, by rw [e]; exact g4.mono (by omega)⟩ (fun c h1 _ _ => f c (by omega)) (by rw [f 33 (by omega)]) g.2 (fun c _ h1 _ _ => g.1 c h1) (fun j _ => by rw [g.1 0 (by decide)])
theorem read_R0 {n W A t k i : Nat} {a3 : Int32} {σ τ σ' τ' : Mem} (hR : fw_Rel n σ τ) (v : Vd W A t (rg 1 σ)) (ht : t < 10000) (b : Bd W (10000 * n) (rg 1 σ)) (s : Sm 0 W A τ (rg 1 σ) 0 0) (e : rg 1 σ' = up2 (o_app A (fun j => σ (36 + 2 * k + 1) (a3 + nI j).toNatClampNeg) i (rg 1 σ)) 0 7 (nI A)) (f : Fc 1 σ σ') (t1 : ∀ j, j < 39 → τ' 1 j = τ 1 j) (g : Fr τ τ') : fw_Rel (n + 1) σ' τ' := by
  obtain ⟨h1, h2, h3, h4, h5, h6⟩ := app_rest A (fun j => σ (36 + 2 * k + 1) (a3 + nI j).toNatClampNeg) (rg 1 σ) i
  have hA := v.2.2.2.1
  have hW := v.2.1
  have k0 : ∀ j, j ≠ 7 → rg 1 σ' 0 j = rg 1 σ 0 j := fun j hj => by rw [e, rd_ne hj]; exact h1 j hj
  have k7 : rg 1 σ' 0 7 = rg 1 σ 0 7 := by rw [e, rd_eq]; exact v.2.2.1.symm
  have k1 : rg 1 σ' 1 = rg 1 σ 1 := by rw [e, rd_c (by decide)]; exact h2
  have k2 : rg 1 σ' 2 = rg 1 σ 2 := by rw [e, rd_c (by decide)]; exact h3
  have k3 : rg 1 σ' 3 = rg 1 σ 3 := by rw [e, rd_c (by decide)]; exact h4
  have k4 : rg 1 σ' 4 = rg 1 σ 4 := by rw [e, rd_c (by decide)]; exact h5
  have k5 : ∀ j, j < A → rg 1 σ' 5 j = rg 1 σ 5 j := fun j hj => by rw [e, rd_cj (by decide)]; exact h6 j hj
  refine fr_1 hR ⟨W, A, t, ?_, ht, ?_, ?_⟩ (fun c h1 _ _ => f c (by omega)) (by rw [f 33 (by omega)]) g.2 (fun c _ h1 _ _ => g.1 c h1) (fun j _ => by rw [g.1 0 (by decide)])
  · obtain ⟨v1, v2, v3, v4, v5, v6, v7, v8, v9⟩ := v
    refine ⟨?_, v2, ?_, v4, ?_, v6, ?_, ?_, fun j hj => ?_⟩
    · rw [k0 2 (by decide)]; exact v1
    · rw [k7]; exact v3
    · rw [k0 9 (by decide)]; exact v5
    · rw [k0 0 (by decide)]; exact v7
    · rw [k1, k2, k3]; exact v8
    · rw [k5 j hj]; exact v9 j hj
  · obtain ⟨s1, s2, s3, s4, s5, s6, s7, s8, s9⟩ := s.copy (q := 0) (τ' := τ') hW hA (fun j hj => by rw [Nat.zero_add]; exact t1 j hj)
    refine ⟨?_, ?_, ?_, ?_, ?_, ?_, ?_, ?_, fun j hj => ?_⟩
    · rw [k0 0 (by decide)]; exact s1
    · rw [k0 1 (by decide)]; exact s2
    · rw [k0 2 (by decide)]; exact s3
    · rw [k7]; exact s4
    · rw [k0 9 (by decide)]; exact s5
    · rw [k0 10 (by decide)]; exact s6
    · rw [k0 11 (by decide)]; exact s7
    · rw [k1, k2, k3, k4]; exact s8
    · rw [k5 j hj]; exact s9 j hj
  · exact (b.mono (by omega)).fr (k0 1 (by decide)) k4
theorem h_read : fp_read fw_Rel := by
  intro n σ τ a1 a2 a3 a4 hR hn
  obtain ⟨W, A, t, v, ht, s, b⟩ := hR.1.get
  have h0 := fr_0 hR
  have hA3 : σ 1 7 = nI A := v.2.2.1
  have hA := v.2.2.2.1
  have hW := v.2.1
  have r6 := hR.2.2.2.2.2.1
  unfold qX3_read qX3_read_B29
  refine s3_within (fun c1 c2 => z1 ?_) (fun c => z0 ?_)
  · refine s3_within (fun c3 c4 => z1 ?_) (fun c => z0 ?_)
    · refine s3_within (fun c5 c6 => y1 ?_) (fun c => y0 ?_)
      · obtain ⟨k, -, hk, rfl⟩ := rng_of 0 3 c1 c2 (by decide) (by decide)
        obtain ⟨n4, -, h4, rfl⟩ := rng_of 0 40 c5 c6 (by decide) (by decide)
        refine ⟨in_nI (by omega) (by decide), ?_⟩
        rintro _ rfl
        rw [hA3]
        refine it4_inv n4 (fun i x6 x7 x8 x9 σ' => x6 = nI A ∧ x9 = nI i ∧ Fc 1 σ σ' ∧ ((x7 = 0 ∧ x8 = nI i ∧ rg 1 σ' = o_app A (fun j => σ (36 + 2 * k + 1) (a3 + nI j).toNatClampNeg) i (rg 1 σ) ∧ (∀ j, j < i → gd σ k A a2 a3 j)) ∨ (∃ m, i = m + 1 ∧ ¬ fvl (36 + 2 * k) a2 (a3 + nI m) σ = 0 ∧ x7 = fvl (36 + 2 * k) a2 (a3 + nI m) σ ∧ x8 = nI m ∧ rg 1 σ' = o_app A (fun j => σ (36 + 2 * k + 1) (a3 + nI j).toNatClampNeg) m (rg 1 σ) ∧ (∀ j, j < m → gd σ k A a2 a3 j)))) (fun i hi x6 x7 x8 x9 σ' hI K hK => ?_) (fun x6 x7 x8 x9 σ' hI K => ?_) (nI A) 0 0 0 σ ⟨rfl, nI_0.symm, Fc.rf, Or.inl ⟨rfl, nI_0.symm, rfl, fun j hj => absurd hj (Nat.not_lt_zero j)⟩⟩
        · obtain ⟨rfl, rfl, f, hI | hI⟩ := hI
          · obtain ⟨rfl, rfl, e, hg⟩ := hI
            unfold qX3_read_L57 qX3_read_B127
            refine ⟨fun z => absurd ((nI_le_iff (by omega) (by omega)).mp z) (by omega), fun _ => y0 (s1_faultAt ?_)⟩
            rw [tn_nI (by omega)]
            have ef : fvl (36 + 2 * k) a2 (a3 + nI i) σ' = fvl (36 + 2 * k) a2 (a3 + nI i) σ := by
              unfold fvl
              rw [f (36 + 2 * k) (by omega)]
            rw [ef, f (36 + 2 * k + 1) (by omega)]
            unfold qX3_read_B121
            refine ⟨fun z => ?_, fun z => ?_⟩
            · rintro _ rfl
              exact hK _ _ _ _ _ ⟨rfl, nI_1 i, f, Or.inr ⟨i, rfl, z, rfl, rfl, e, hg⟩⟩
            · obtain ⟨p, hp, ep, e11⟩ := fvl_in r6 (by omega) z
              obtain ⟨g3, g4⟩ := app_ok (n := n) v b i hg
              have hA2 := g3.2.2.2.1
              have hA4 : σ' 1 7 = nI (A + i) := by
                have q := app_7 (c := fun j => σ (36 + 2 * k + 1) (a3 + nI j).toNatClampNeg) v.2.2.1 i
                rw [← e] at q
                exact q
              have hbad : ∀ r : Int32, ¬ 0 ≤ r → (A + i = 16 ∨ σ (36 + 2 * k + 1) (a3 + nI i).toNatClampNeg < 0 ∨ 203 < σ (36 + 2 * k + 1) (a3 + nI i).toNatClampNeg) → ∀ σ109 : Mem, σ109 = up2 σ' 1 7 (nI A) → qX4_read (nI k) a2 a3 (nI n4) τ (fun r' τ' => -20 - nI i = r' ∧ fw_Rel (n + 1) σ109 τ') := by
                rintro r hr hb _ rfl
                refine m_read (n := n) r6 v b s (by omega) c3 c4 h4 (by omega) hg (Or.inr (Or.inr ⟨hi, z, hb, fun τ' q1 q2 => ⟨rfl, ?_⟩⟩))
                refine read_R0 (k := k) (i := i) (a3 := a3) hR v ht b s ?_ (f.tr (Fc.rf.up0 _ _)) q1 q2
                rw [rg_up0 _ _ _ _ rfl, e]
              refine ⟨by rw [ep]; exact in_nI hp (by decide), s3_addAct hA4 hA2 (fun d1 d2 d3 => ?_) (fun d1 d2 d3 => ⟨fun q => absurd q (by decide), fun _ => hbad (-3) (by decide) (Or.inl d3)⟩) (fun d => ⟨fun q => absurd q (by decide), fun _ => hbad (-1) (by decide) (Or.inr d)⟩)⟩
              refine ⟨fun _ => ?_, fun q => absurd (nI_pos' (by omega)) q⟩
              rw [nI_1]
              rintro _ rfl _ rfl
              refine hK _ _ _ _ _ ⟨rfl, rfl, f.tr ((Fc.rf.up (b := 1) (j := 5) (by decide) _ _).up0 _ _), Or.inl ⟨z, rfl, ?_, fun j hj => ?_⟩⟩
              · rw [rg_up0 _ _ _ _ rfl, rg_up 1 σ' 5 _ _ (rgk_p (by omega)), e]
                rfl
              · by_cases ej : j = i
                · subst ej
                  obtain ⟨x, -, hx, ex⟩ := rng_of 0 203 d1 d2 (by decide) (by decide)
                  exact ⟨z, d3, x, hx, ex⟩
                · exact hg j (by omega)
          · obtain ⟨m, rfl, hF, rfl, rfl, e, hg⟩ := hI
            unfold qX3_read_L57 qX3_read_B127
            refine ⟨fun z => absurd ((nI_le_iff (by omega) (by omega)).mp z) (by omega), fun _ => ⟨fun _ => ?_, fun z => absurd z hF⟩⟩
            rintro _ rfl
            exact m_read (n := n) r6 v b s (by omega) c3 c4 h4 (by omega) hg (Or.inr (Or.inl ⟨by omega, hF, fun τ' q1 q2 => ⟨rfl, fr_torn _ (read_R1 (a2 := a2) hR v ht b hg e f q1 q2)⟩⟩))
        · obtain ⟨rfl, rfl, f, hI | hI⟩ := hI
          · obtain ⟨rfl, rfl, e, hg⟩ := hI
            unfold qX3_read_L57 qX3_read_B127
            refine ⟨fun _ => ?_, fun z => absurd (Int32.le_refl _) z⟩
            rintro _ rfl
            exact m_read (n := n) r6 v b s (by omega) c3 c4 h4 (by omega) hg (Or.inl ⟨rfl, fun τ' q1 q2 => ⟨rfl, fr_torn _ (read_R1 (a2 := a2) hR v ht b hg e f q1 q2)⟩⟩)
          · obtain ⟨m, rfl, hF, rfl, rfl, e, hg⟩ := hI
            unfold qX3_read_L57 qX3_read_B127
            refine ⟨fun _ => ?_, fun z => absurd (Int32.le_refl _) z⟩
            rintro _ rfl
            exact m_read (n := n) r6 v b s (by omega) c3 c4 h4 (by omega) hg (Or.inr (Or.inl ⟨by omega, hF, fun τ' q1 q2 => ⟨rfl, fr_torn _ (read_R1 (a2 := a2) hR v ht b hg e f q1 q2)⟩⟩))
      · unfold qX4_read qX4_read_B37
        exact in_t (lo := 0) (hi := 3) rfl rfl c1 c2 (z1 (in_t (lo := 0) (hi := 2) rfl rfl c3 c4 (z1 (in_f (lo := 0) (hi := 40) rfl rfl c (y0 ⟨rfl, h0⟩)))))
    · unfold qX4_read qX4_read_B37
      exact in_t (lo := 0) (hi := 3) rfl rfl c1 c2 (z1 (in_f (lo := 0) (hi := 2) rfl rfl c (z0 ⟨rfl, h0⟩)))
  · unfold qX4_read qX4_read_B37
    exact in_f (lo := 0) (hi := 3) rfl rfl c (z0 ⟨rfl, h0⟩)
