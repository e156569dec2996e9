/-! PURE, 5: what both sides share -/
theorem y1 {P Q : Prop} (h : P) : (¬ (1 : Int32) = 0 → P) ∧ ((1 : Int32) = 0 → Q) := ⟨fun _ => h, fun z => absurd z (by decide)⟩
theorem y0 {P Q : Prop} (h : Q) : (¬ (0 : Int32) = 0 → P) ∧ ((0 : Int32) = 0 → Q) := ⟨fun z => absurd rfl z, fun _ => h⟩
theorem z1 {P Q : Prop} (h : P) : ((1 : Int32) = 0 → Q) ∧ (¬ (1 : Int32) = 0 → P) := ⟨fun z => absurd z (by decide), fun _ => h⟩
theorem z0 {P Q : Prop} (h : Q) : ((0 : Int32) = 0 → Q) ∧ (¬ (0 : Int32) = 0 → P) := ⟨fun _ => h, fun z => absurd rfl z⟩
theorem in_t {x lo hi : Int32} {L H : Int64} {σ : Mem} {post : Int32 → Mem → Prop} (hL : L = lo.toInt64) (hH : H = hi.toInt64) (c1 : ¬ x < lo) (c2 : ¬ hi < x) (h : post 1 σ) : qX4_in x.toInt64 L H σ post := s4_in hL hH (fun _ _ => h) (fun c => by rcases c with z | z; exact absurd z c1; exact absurd z c2)
theorem in_f {x lo hi : Int32} {L H : Int64} {σ : Mem} {post : Int32 → Mem → Prop} (hL : L = lo.toInt64) (hH : H = hi.toInt64) (c : x < lo ∨ hi < x) (h : post 0 σ) : qX4_in x.toInt64 L H σ post := s4_in hL hH (fun c1 c2 => by rcases c with z | z; exact absurd z c1; exact absurd z c2) (fun _ => h)
theorem isWheel_t {W : Nat} {a1 : Int32} {τ : Mem} {post : Int32 → Mem → Prop} (hw : τ 1 16 = nI W) (hW : W ≤ 4) (c1 : ¬ a1 < 0) (c2 : ¬ nI W ≤ a1) (h : post 1 τ) : qX4_isWheel a1 τ post := s4_isWheel hw hW (fun _ _ => h) (fun c => by rcases c with z | z; exact absurd z c1; exact absurd z c2)
theorem isWheel_f {W : Nat} {a1 : Int32} {τ : Mem} {post : Int32 → Mem → Prop} (hw : τ 1 16 = nI W) (hW : W ≤ 4) (c : a1 < 0 ∨ nI W ≤ a1) (h : post 0 τ) : qX4_isWheel a1 τ post := s4_isWheel hw hW (fun c1 c2 => by rcases c with z | z; exact absurd z c1; exact absurd z c2) (fun _ => h)
theorem isAct_t {W : Nat} {a1 : Int32} {τ : Mem} {post : Int32 → Mem → Prop} (hw : τ 1 33 = nI W) (hW : W ≤ 16) (c1 : ¬ a1 < 0) (c2 : ¬ nI W ≤ a1) (h : post 1 τ) : qX4_isAct a1 τ post := s4_isAct hw hW (fun _ _ => h) (fun c => by rcases c with z | z; exact absurd z c1; exact absurd z c2)
theorem isAct_f {W : Nat} {a1 : Int32} {τ : Mem} {post : Int32 → Mem → Prop} (hw : τ 1 33 = nI W) (hW : W ≤ 16) (c : a1 < 0 ∨ nI W ≤ a1) (h : post 0 τ) : qX4_isAct a1 τ post := s4_isAct hw hW (fun c1 c2 => by rcases c with z | z; exact absurd z c1; exact absurd z c2) (fun _ => h)
theorem isLong_t {a1 : Int32} {τ : Mem} {post : Int32 → Mem → Prop} (c1 : ¬ a1 < 0) (c2 : ¬ 200 < a1) (h : post 1 τ) : qX4_isLong a1 τ post := s4_isLong (fun _ _ => h) (fun c => by rcases c with z | z; exact absurd z c1; exact absurd z c2)
theorem isLong_f {a1 : Int32} {τ : Mem} {post : Int32 → Mem → Prop} (c : a1 < 0 ∨ 200 < a1) (h : post 0 τ) : qX4_isLong a1 τ post := s4_isLong (fun c1 c2 => by rcases c with z | z; exact absurd z c1; exact absurd z c2) (fun _ => h)
theorem puts_t {a2 a3 a4 : Int32} {τ : Mem} {post : Int32 → Mem → Prop} {k : Nat} (hk : a2 = nI k) (hlt : k < 234) (h : post (τ 1 k + a4) (up2 τ 1 k (a3 - a4))) : qX4_puts 1 a2 a3 a4 τ post := s4_puts1 hk hlt (fun _ => h) (fun z => absurd z (by decide))
theorem puts_f {a2 a3 a4 : Int32} {τ : Mem} {post : Int32 → Mem → Prop} (h : post (-1) τ) : qX4_puts 0 a2 a3 a4 τ post := by
  unfold qX4_puts
  exact y0 h
def sumF (f : Nat → Nat) : Nat → Nat
  | 0 => 0
  | k + 1 => sumF f k + f k
/-- swings are natural numbers, together at most S -/
def Bd (W S : Nat) (ρ : Mem) : Prop := ∃ s : Nat, ∃ f : Nat → Nat, ρ 0 1 = nI s ∧ (∀ i, i < W → ρ 4 i = nI (f i)) ∧ s + sumF f W ≤ S
def Pg (p S : Nat) (ρ τ : Mem) : Prop := ∃ W A t, Vd W A t ρ ∧ t < 10000 ∧ Sm p W A τ ρ 0 0 ∧ Bd W S ρ
theorem Bd.mono {W S S' : Nat} {ρ : Mem} (h : Bd W S ρ) (hS : S ≤ S') : Bd W S' ρ := by
  obtain ⟨s, f, h1, h2, h3⟩ := h
  exact ⟨s, f, h1, h2, by omega⟩
theorem Pg.mono {p S S' : Nat} {ρ τ : Mem} (h : Pg p S ρ τ) (hS : S ≤ S') : Pg p S' ρ τ := by
  obtain ⟨W, A, t, v, ht, s, b⟩ := h
  exact ⟨W, A, t, v, ht, s, b.mono hS⟩
theorem Pg.fr {p q S : Nat} {ρ τ τ' : Mem} (h : Pg p S ρ τ) (e : ∀ k, k < 39 → τ' 1 (q + k) = τ 1 (p + k)) : Pg q S ρ τ' := by
  obtain ⟨W, A, t, v, ht, s, b⟩ := h
  exact ⟨W, A, t, v, ht, s.copy v.2.1 v.2.2.2.1 e, b⟩
def R1 (n : Nat) (σ τ : Mem) : Prop := Pg 0 (10000 * n) (rg 1 σ) τ
def R2 (n : Nat) (σ τ : Mem) : Prop := ∀ k, k < 2 → τ 8 k = σ 32 k ∧ (¬ σ 32 k = 0 → Pg (39 * (k + 1)) (10000 * n) (rg (19 + 6 * k) σ) τ)
def R3 (σ τ : Mem) : Prop := ∃ T, T ≤ 160 ∧ σ 33 1 = nI T ∧ τ 0 4 = nI T ∧ ∀ i, i < T → τ 3 i = σ 34 i ∧ ∃ v, v ≤ 127 ∧ σ 34 i = nI v
def R4 (σ τ : Mem) : Prop := σ 0 11 = τ 0 5 ∧ σ 0 12 = τ 0 25
def R5 (σ τ : Mem) : Prop := ∃ s, s ≤ 6 ∧ σ 0 10 = nI s ∧ τ 0 19 = nI s ∧ ∀ i, i < s → τ 6 (3 * i) = σ 44 i ∧ τ 6 (3 * i + 1) = σ 45 i ∧ τ 6 (3 * i + 2) = σ 46 i ∧ (∃ t, t ≤ 40 ∧ σ 44 i = nI t) ∧ (∃ w, w < 4 ∧ σ 45 i = nI w)
def R6 (σ τ : Mem) : Prop := ∀ k, k < 4 → (σ (36 + 2 * k) 0 = 0 ∧ τ 9 k = -4) ∨ (¬ σ (36 + 2 * k) 0 = 0 ∧ ∃ ln sz, ln ≤ 2 ∧ sz ≤ 40 ∧ σ (36 + 2 * k) 1 = nI ln ∧ τ 9 k = nI ln ∧ σ (36 + 2 * k) 2 = nI sz ∧ τ 10 k = nI sz ∧ ∀ i, i < 40 → τ 11 (40 * k + i) = σ (36 + 2 * k + 1) i)
def R7 (τ : Mem) : Prop := τ 0 14 = -4 ∧ τ 0 15 = -4 ∧ τ 4 = s0M 4 ∧ τ 5 = s0M 5
def fw_Rel (n : Nat) (σ τ : Mem) : Prop := R1 n σ τ ∧ R2 n σ τ ∧ R3 σ τ ∧ R4 σ τ ∧ R5 σ τ ∧ R6 σ τ ∧ R7 τ
theorem R1.fr {n : Nat} {σ τ σ' τ' : Mem} (h : R1 n σ τ) (e : rg 1 σ' = rg 1 σ) (t1 : ∀ k, k < 39 → τ' 1 k = τ 1 k) : R1 (n + 1) σ' τ' := by
  unfold R1
  rw [e]
  exact (h.mono (by omega)).fr (q := 0) (fun k hk => by rw [Nat.zero_add]; exact t1 k hk)
theorem R2.fr {n : Nat} {σ τ σ' τ' : Mem} (h : R2 n σ τ) (e : σ' 32 = σ 32) (e1 : rg 19 σ' = rg 19 σ) (e2 : rg 25 σ' = rg 25 σ) (t8 : τ' 8 = τ 8) (t1 : ∀ k, 39 ≤ k → k < 117 → τ' 1 k = τ 1 k) : R2 (n + 1) σ' τ' := by
  intro k hk
  obtain ⟨h1, h2⟩ := h k hk
  rw [e, t8]
  refine ⟨h1, fun c => ?_⟩
  have e3 : rg (19 + 6 * k) σ' = rg (19 + 6 * k) σ := by
    have : k = 0 ∨ k = 1 := by omega
    rcases this with rfl | rfl
    · exact e1
    · exact e2
  rw [e3]
  exact ((h2 c).mono (by omega)).fr (fun j hj => t1 _ (by omega) (by omega))
theorem R3.fr {σ τ σ' τ' : Mem} (h : R3 σ τ) (e1 : σ' 33 1 = σ 33 1) (e2 : σ' 34 = σ 34) (e3 : τ' 0 4 = τ 0 4) (e4 : τ' 3 = τ 3) : R3 σ' τ' := by
  unfold R3
  rw [e1, e2, e3, e4]
  exact h
theorem R4.fr {σ τ σ' τ' : Mem} (h : R4 σ τ) (e1 : σ' 0 11 = σ 0 11) (e2 : σ' 0 12 = σ 0 12) (e3 : τ' 0 5 = τ 0 5) (e4 : τ' 0 25 = τ 0 25) : R4 σ' τ' := by
  unfold R4
  rw [e1, e2, e3, e4]
  exact h
theorem R5.fr {σ τ σ' τ' : Mem} (h : R5 σ τ) (e1 : σ' 0 10 = σ 0 10) (e2 : σ' 44 = σ 44) (e3 : σ' 45 = σ 45) (e4 : σ' 46 = σ 46) (e5 : τ' 0 19 = τ 0 19) (e6 : τ' 6 = τ 6) : R5 σ' τ' := by
  unfold R5
  rw [e1, e2, e3, e4, e5, e6]
  exact h
theorem R6.fr {σ τ σ' τ' : Mem} (h : R6 σ τ) (e1 : ∀ c, 36 ≤ c → c < 44 → σ' c = σ c) (e2 : τ' 9 = τ 9) (e3 : τ' 10 = τ 10) (e4 : τ' 11 = τ 11) : R6 σ' τ' := by
  intro k hk
  rw [e1 _ (by omega) (by omega), e1 (36 + 2 * k + 1) (by omega) (by omega), e2, e3, e4]
  exact h k hk
theorem R7.fr {τ τ' : Mem} (h : R7 τ) (e1 : τ' 0 14 = τ 0 14) (e2 : τ' 0 15 = τ 0 15) (e3 : τ' 4 = τ 4) (e4 : τ' 5 = τ 5) : R7 τ' := by
  unfold R7
  rw [e1, e2, e3, e4]
  exact h
/-- only the rig and its page change -/
theorem fr_1 {n : Nat} {σ τ σ' τ' : Mem} (h : fw_Rel n σ τ) (r1 : R1 (n + 1) σ' τ') (hs : ∀ c, c = 0 ∨ 19 ≤ c → c ≠ 33 → c ≠ 47 → σ' c = σ c) (h33 : σ' 33 1 = σ 33 1) (t1 : ∀ k, 39 ≤ k → k < 117 → τ' 1 k = τ 1 k) (tc : ∀ c, c ≠ 0 → c ≠ 1 → c ≠ 2 → c ≠ 7 → τ' c = τ c) (t0 : ∀ k, k = 4 ∨ k = 5 ∨ k = 14 ∨ k = 15 ∨ k = 19 ∨ k = 25 → τ' 0 k = τ 0 k) : fw_Rel (n + 1) σ' τ' := by
  obtain ⟨-, r2, r3, r4, r5, r6, r7⟩ := h
  have g : ∀ b, 19 ≤ b → b ≤ 25 → rg b σ' = rg b σ := fun b h1 h2 => rg_ext (fun j i hj => by have := rgk_lt hj; rw [hs _ (by omega) (by omega) (by omega)])
  have z := hs 0 (by omega) (by omega) (by omega)
  refine ⟨r1, r2.fr (hs 32 (by omega) (by omega) (by omega)) (g 19 (by omega) (by omega)) (g 25 (by omega) (by omega)) (tc 8 (by omega) (by omega) (by omega) (by omega)) t1, r3.fr h33 (hs 34 (by omega) (by omega) (by omega)) (t0 4 (by omega)) (tc 3 (by omega) (by omega) (by omega) (by omega)), r4.fr (by rw [z]) (by rw [z]) (t0 5 (by omega)) (t0 25 (by omega)), r5.fr (by rw [z]) (hs 44 (by omega) (by omega) (by omega)) (hs 45 (by omega) (by omega) (by omega)) (hs 46 (by omega) (by omega) (by omega)) (t0 19 (by omega)) (tc 6 (by omega) (by omega) (by omega) (by omega)), r6.fr (fun c h1 h2 => hs c (by omega) (by omega) (by omega)) (tc 9 (by omega) (by omega) (by omega) (by omega)) (tc 10 (by omega) (by omega) (by omega) (by omega)) (tc 11 (by omega) (by omega) (by omega) (by omega)), r7.fr (t0 14 (by omega)) (t0 15 (by omega)) (tc 4 (by omega) (by omega) (by omega) (by omega)) (tc 5 (by omega) (by omega) (by omega) (by omega))⟩
theorem fr_q {n : Nat} {σ τ σ' τ' : Mem} (h : fw_Rel n σ τ) (hs : ∀ c, c < 7 ∨ 19 ≤ c → c ≠ 33 → c ≠ 47 → σ' c = σ c) (h33 : σ' 33 1 = σ 33 1) (t1 : ∀ k, k < 117 → τ' 1 k = τ 1 k) (tc : ∀ c, c ≠ 0 → c ≠ 1 → c ≠ 2 → c ≠ 7 → τ' c = τ c) (t0 : ∀ k, k = 4 ∨ k = 5 ∨ k = 14 ∨ k = 15 ∨ k = 19 ∨ k = 25 → τ' 0 k = τ 0 k) : fw_Rel (n + 1) σ' τ' :=
  fr_1 h (h.1.fr (rg_ext (fun j i hj => by have := rgk_lt hj; rw [hs _ (by omega) (by omega) (by omega)])) (fun k hk => t1 k (by omega))) (fun c h1 h2 h3 => hs c (by omega) h2 h3) h33 (fun k _ hk => t1 k hk) tc t0
theorem fr_0 {n : Nat} {σ τ : Mem} (h : fw_Rel n σ τ) : fw_Rel (n + 1) σ τ := fr_q h (fun _ _ _ _ => rfl) rfl (fun _ _ => rfl) (fun _ _ _ _ _ => rfl) (fun _ _ => rfl)
theorem h_fault : fp_fault fw_Rel := by
  intro n σ τ hR hn
  unfold qX3_fault qX4_fault
  exact ⟨hR.2.2.2.1.1, fr_0 hR⟩
theorem h_torn : fp_torn fw_Rel := by
  intro n σ τ hR hn
  unfold qX3_torn qX4_torn
  exact ⟨hR.2.2.2.1.2, fr_0 hR⟩
theorem h_feed : fp_feed fw_Rel := by
  intro n σ τ a1 hR hn
  have hR0 := hR
  obtain ⟨r1, r2, ⟨T, hT, eS, eT, eB⟩, r4, r5, r6, r7⟩ := hR
  unfold qX3_feed
  refine s3_within (fun c1 c2 => y1 ?_) (fun c => y0 ?_)
  · unfold qX2_append
    rw [eS]
    refine ⟨fun c3 => ?_, fun c3 => ?_⟩
    · have h3 : T < 160 := (nI_lt_iff (b := 160) (by omega) (by omega)).mp c3
      refine ⟨in_nI h3 (by decide), ?_⟩
      rintro _ rfl _ rfl
      unfold qX4_feed
      refine in_t (hi := 127) rfl rfl c1 c2 (y1 ⟨fun c4 => ?_, fun c4 => ?_⟩)
      · rw [eT]
        refine ⟨in_nI h3 (by decide), ?_⟩
        rintro _ rfl _ rfl
        have e1 : up2 σ 34 (nI T).toNatClampNeg a1 33 1 + 1 = nI (T + 1) := by rw [rd_cj (by decide), eS]; exact nI_1 T
        have e2 : up2 τ 3 (nI T).toNatClampNeg a1 0 4 + 1 = nI (T + 1) := by rw [rd_cj (by decide), eT]; exact nI_1 T
        rw [e1, e2, rd_eq, rd_eq, tn_nI (by omega)]
        refine ⟨rfl, r1.fr (by rw [rg_out _ _ (by omega), rg_out _ _ (by omega)]) (fun _ _ => rfl), r2.fr rfl (by rw [rg_out _ _ (by omega), rg_out _ _ (by omega)]) (by rw [rg_out _ _ (by omega), rg_out _ _ (by omega)]) rfl (fun _ _ _ => rfl), ⟨T + 1, by omega, rd_eq _ _ _ _, rd_eq _ _ _ _, fun i hi => ?_⟩, r4, r5, r6.fr (fun c h1 h2 => by rw [rd_c (by omega), rd_c (by omega)]) rfl rfl rfl, r7⟩
        show up2 τ 3 T a1 3 i = up2 σ 34 T a1 34 i ∧ ∃ v, v ≤ 127 ∧ up2 σ 34 T a1 34 i = nI v
        by_cases e : i = T
        · subst e
          rw [rd_eq, rd_eq]
          obtain ⟨v, -, hv, rfl⟩ := rng_of 0 127 c1 c2 (by decide) (by decide)
          exact ⟨rfl, v, hv, rfl⟩
        · rw [rd_ne e, rd_ne e]
          exact eB i (by omega)
      · rw [eT] at c4
        exact absurd ((nI_eq_iff (b := 160) (by omega) (by omega)).mp c4) (by omega)
    · have h3 : T = 160 := by
        rw [show (160 : Int32) = nI 160 from rfl, nI_lt_iff (by omega) (by omega)] at c3
        omega
      unfold qX4_feed
      refine in_t (hi := 127) rfl rfl c1 c2 (y1 ⟨fun c4 => ?_, fun c4 => ⟨rfl, fr_0 hR0⟩⟩)
      rw [eT, h3] at c4
      exact absurd rfl c4
  · unfold qX4_feed
    exact in_f (lo := 0) (hi := 127) rfl rfl c (y0 ⟨rfl, fr_0 hR0⟩)
theorem h_end : fp_end fw_Rel := by
  intro n σ τ a1 hR hn
  have hR0 := hR
  obtain ⟨r1, r2, ⟨T, hT, eS, eT, eB⟩, r4, r5, r6, r7⟩ := hR
  unfold qX3_end
  refine s3_within (fun c1 c2 => y1 ?_) (fun c => y0 ?_)
  · rintro _ rfl _ rfl
    unfold qX4_end
    refine in_t (hi := τ 0 4) rfl rfl c1 (by rw [eT, ← eS]; exact c2) (y1 ?_)
    rintro _ rfl _ rfl
    rw [eS] at c2
    obtain ⟨v, -, hv, rfl⟩ := rng_of 0 T c1 c2 (by omega) (by decide)
    refine ⟨by rw [eS, eT], r1.fr (rg_out _ _ (by omega)) (fun _ _ => rfl), r2.fr rfl (rg_out _ _ (by omega)) (rg_out _ _ (by omega)) rfl (fun _ _ _ => rfl), ⟨v, by omega, rd_eq _ _ _ _, rd_eq _ _ _ _, fun i hi => eB i (by omega)⟩, r4, r5, r6.fr (fun c h1 h2 => by rw [rd_c (by omega)]) rfl rfl rfl, r7⟩
  · unfold qX4_end
    exact in_f (lo := 0) (hi := τ 0 4) rfl rfl (by rw [eT, ← eS]; exact c) (y0 ⟨rfl, fr_0 hR0⟩)
theorem h_forget : fp_forget fw_Rel := by
  intro n σ τ a1 hR hn
  have hR0 := hR
  obtain ⟨r1, r2, r3, r4, ⟨s, hs, eS, eT, eB⟩, r6, r7⟩ := hR
  unfold qX3_forget
  refine s3_within (fun c1 c2 => y1 ?_) (fun c => y0 ?_)
  · rintro _ rfl _ rfl
    unfold qX4_forget
    refine in_t (hi := τ 0 19) rfl rfl c1 (by rw [eT, ← eS]; exact c2) (y1 ?_)
    rintro _ rfl _ rfl
    rw [eS] at c2
    obtain ⟨v, -, hv, rfl⟩ := rng_of 0 s c1 c2 (by omega) (by decide)
    exact ⟨by rw [eS, eT], r1.fr (rg_out _ _ (by omega)) (fun _ _ => rfl), r2.fr rfl (rg_out _ _ (by omega)) (rg_out _ _ (by omega)) rfl (fun _ _ _ => rfl), r3, r4, ⟨v, by omega, rd_eq _ _ _ _, rd_eq _ _ _ _, fun i hi => eB i (by omega)⟩, r6.fr (fun c h1 h2 => by rw [rd_c (by omega)]) rfl rfl rfl, r7⟩
  · unfold qX4_forget
    exact in_f (lo := 0) (hi := τ 0 19) rfl rfl (by rw [eT, ← eS]; exact c) (y0 ⟨rfl, fr_0 hR0⟩)
theorem h_see : fp_see fw_Rel := by
  intro n σ τ a1 a2 a3 hR hn
  have hR0 := hR
  obtain ⟨r1, r2, r3, r4, ⟨s, hs, eS, eT, eB⟩, r6, r7⟩ := hR
  have r1' := r1
  obtain ⟨W, A, t, v, ht, sm, bd⟩ := r1'
  have hw : τ 1 16 = nI W := by
    have := sm.2.2.1
    rw [v.1] at this
    exact this
  have hw3 : σ 1 2 = nI W := v.1
  unfold qX3_see qX3_see_B31
  refine s3_within (fun c1 c2 => z1 ?_) (fun c => z0 ?_)
  · refine s0_hasWheel (fun c3 c4 => z1 ?_) (fun c => z0 ?_)
    · rw [hw3] at c4
      refine s3_within (fun c5 c6 => y1 ?_) (fun c => y0 ?_)
      · rw [eS]
        refine ⟨fun c7 => ?_, fun c7 => ?_⟩
        · have h7 : s < 6 := (nI_lt_iff (b := 6) (by omega) (by omega)).mp c7
          refine ⟨in_nI h7 (by decide), ?_⟩
          rintro _ rfl
          rw [rd_cj (by decide), eS]
          refine ⟨in_nI h7 (by decide), ?_⟩
          rintro _ rfl
          rw [rd_cj (by decide), rd_cj (by decide), eS]
          refine ⟨in_nI h7 (by decide), ?_⟩
          rintro _ rfl
          rw [rd_cj (by decide), rd_cj (by decide), rd_cj (by decide), eS, nI_1]
          rintro _ rfl
          unfold qX4_see
          refine in_t (lo := 0) (hi := 40) rfl rfl c1 c2 (z1 (isWheel_t hw v.2.1 c3 c4 (z1 (in_t (lo := 0) (hi := 9999999) rfl rfl c5 c6 (y1 ⟨fun c8 => ?_, fun c8 => ?_⟩)))))
          · rw [eT, show (3 : Int32) = nI 3 from rfl, pk_mul]
            refine ⟨in_nI (by omega) (by decide), ?_⟩
            rintro _ rfl
            rw [rd_cj (by decide), eT, pk_mul, nI_1]
            refine ⟨in_nI (by omega) (by decide), ?_⟩
            rintro _ rfl
            rw [rd_cj (by decide), rd_cj (by decide), eT, pk_mul, show (2 : Int32) = nI 2 from rfl, nI_add]
            refine ⟨in_nI (by omega) (by decide), ?_⟩
            rintro _ rfl
            rw [rd_cj (by decide), rd_cj (by decide), rd_cj (by decide), eT, nI_1]
            rintro _ rfl
            rw [rd_eq, rd_eq, tn_nI (by omega), tn_nI (by omega), tn_nI (by omega), tn_nI (by omega)]
            refine ⟨rfl, r1.fr (by rw [rg_out _ _ (by omega), rg_out _ _ (by omega), rg_out _ _ (by omega), rg_out _ _ (by omega)]) (fun _ _ => rfl), r2.fr rfl (by rw [rg_out _ _ (by omega), rg_out _ _ (by omega), rg_out _ _ (by omega), rg_out _ _ (by omega)]) (by rw [rg_out _ _ (by omega), rg_out _ _ (by omega), rg_out _ _ (by omega), rg_out _ _ (by omega)]) rfl (fun _ _ _ => rfl), r3, r4, ⟨s + 1, by omega, rd_eq _ _ _ _, rd_eq _ _ _ _, fun i hi => ?_⟩, r6.fr (fun c h1 h2 => by rw [rd_c (by omega), rd_c (by omega), rd_c (by omega), rd_c (by omega)]) rfl rfl rfl, r7⟩
            simp only [rd_if]
            by_cases e : i = s
            · subst e
              obtain ⟨x, -, hx, rfl⟩ := rng_of 0 40 c1 c2 (by decide) (by decide)
              obtain ⟨y, hy, rfl⟩ := idx_of c3 c4 (by have := v.2.1; omega)
              have := v.2.1
              have e1 : ¬ 3 * i + 1 = 3 * i := by omega
              have e2 : ¬ 3 * i + 2 = 3 * i := by omega
              have e3 : ¬ 3 * i + 2 = 3 * i + 1 := by omega
              have e4 : ¬ 3 * i = 3 * i + 1 := by omega
              have e5 : ¬ 3 * i = 3 * i + 2 := by omega
              have e6 : ¬ 3 * i + 1 = 3 * i + 2 := by omega
              simp [e1, e2, e3, e4, e5, e6]
              exact ⟨⟨x, by omega, rfl⟩, ⟨y, by omega, rfl⟩⟩
            · have hi' : i < s := by omega
              have := eB i hi'
              have e1 : ¬ 3 * i = 3 * s := by omega
              have e2 : ¬ 3 * i + 1 = 3 * s := by omega
              have e3 : ¬ 3 * i + 2 = 3 * s := by omega
              have e4 : ¬ 3 * i = 3 * s + 1 := by omega
              have e5 : ¬ 3 * i + 1 = 3 * s + 1 := by omega
              have e6 : ¬ 3 * i + 2 = 3 * s + 1 := by omega
              have e7 : ¬ 3 * i = 3 * s + 2 := by omega
              have e8 : ¬ 3 * i + 1 = 3 * s + 2 := by omega
              have e9 : ¬ 3 * i + 2 = 3 * s + 2 := by omega
              simp [e, e1, e2, e3, e4, e5, e6, e7, e8, e9]
              exact this
          · rw [eT] at c8
            exact absurd ((nI_eq_iff (b := 6) (by omega) (by omega)).mp c8) (by omega)
        · have h7 : s = 6 := by
            rw [show (6 : Int32) = nI 6 from rfl, nI_lt_iff (by omega) (by omega)] at c7
            omega
          unfold qX4_see
          refine in_t (lo := 0) (hi := 40) rfl rfl c1 c2 (z1 (isWheel_t hw v.2.1 c3 c4 (z1 (in_t (lo := 0) (hi := 9999999) rfl rfl c5 c6 (y1 ⟨fun c8 => ?_, fun c8 => ⟨rfl, fr_0 hR0⟩⟩)))))
          rw [eT, h7] at c8
          exact absurd rfl c8
      · unfold qX4_see qX4_see_B32
        exact in_t (lo := 0) (hi := 40) rfl rfl c1 c2 (z1 (isWheel_t hw v.2.1 c3 c4 (z1 (in_f (lo := 0) (hi := 9999999) rfl rfl c (y0 ⟨rfl, fr_0 hR0⟩)))))
    · rw [hw3] at c
      unfold qX4_see qX4_see_B32
      exact in_t (lo := 0) (hi := 40) rfl rfl c1 c2 (z1 (isWheel_f hw v.2.1 c (z0 ⟨rfl, fr_0 hR0⟩)))
  · unfold qX4_see qX4_see_B32
    exact in_f (lo := 0) (hi := 40) rfl rfl c (z0 ⟨rfl, fr_0 hR0⟩)
