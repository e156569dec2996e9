/-! PURE, 18: the text, token by token -/
def skp (q : Nat → Bool) : Nat → Nat → Nat
  | 0, a => a
  | f + 1, a => if q a = true then skp q f (a + 1) else a
theorem skp_ge (q : Nat → Bool) : ∀ f a, a ≤ skp q f a ∧ skp q f a ≤ a + f
  | 0, a => ⟨Nat.le_refl _, Nat.le_refl _⟩
  | f + 1, a => by
    rw [skp]
    by_cases c : q a = true
    · rw [if_pos c]
      have := skp_ge q f (a + 1)
      omega
    · rw [if_neg c]
      omega
theorem skp_all (q : Nat → Bool) : ∀ f a i, a ≤ i → i < skp q f a → q i = true
  | 0, a, i => fun h1 h2 => by rw [skp] at h2; omega
  | f + 1, a, i => by
    rw [skp]
    by_cases c : q a = true
    · rw [if_pos c]
      intro h1 h2
      by_cases e : i = a
      · subst e; exact c
      · exact skp_all q f (a + 1) i (by omega) h2
    · rw [if_neg c]
      intro h1 h2
      omega
theorem skp_stop (q : Nat → Bool) {T : Nat} (h : ∀ i, q i = true → i < T) : ∀ f a, T ≤ a + f → ¬ q (skp q f a) = true
  | 0, a => fun h1 h2 => by rw [skp] at h2; have := h a h2; omega
  | f + 1, a => by
    intro h1
    rw [skp]
    by_cases c : q a = true
    · rw [if_pos c]
      exact skp_stop q h f (a + 1) (by omega)
    · rw [if_neg c]
      exact c
theorem skp_eq (q : Nat → Bool) : ∀ f a e, a ≤ e → e - a < f → (∀ i, a ≤ i → i < e → q i = true) → ¬ q e = true → skp q f a = e
  | 0, a, e => fun _ h2 => by omega
  | f + 1, a, e => by
    intro h1 h2 h3 h4
    rw [skp]
    by_cases c : a = e
    · subst c; rw [if_neg h4]
    · rw [if_pos (h3 a (by omega) (by omega))]
      exact skp_eq q f (a + 1) e (by omega) (by omega) (fun i hi => h3 i (by omega)) h4
theorem it0_skp {F : (Mem → Prop) → Mem → Prop} {q : Nat → Bool} (g : Nat → Mem) (lo : Nat) (st : ∀ a, lo ≤ a → q a = true → ∀ K : Mem → Prop, K (g (a + 1)) → F K (g a)) : ∀ f a, lo ≤ a → (∀ K, F K (g (skp q f a))) → ∃ n, it0 F n (g a)
  | 0, a => fun _ h => ⟨1, h _⟩
  | f + 1, a => by
    intro hlo h
    rw [skp] at h
    by_cases c : q a = true
    · rw [if_pos c] at h
      obtain ⟨n, hn⟩ := it0_skp g lo st f (a + 1) (by omega) h
      exact ⟨n + 1, st a hlo c _ hn⟩
    · rw [if_neg c] at h
      exact ⟨1, h _⟩
def letB (x : Int32) : Bool := decide (¬ x < 97 ∧ ¬ 122 < x)
def digB (x : Int32) : Bool := decide (¬ x < 48 ∧ ¬ 57 < x)
def qS (by_ : Nat → Int32) (T i : Nat) : Bool := decide (i < T ∧ by_ i = 32)
def qL (by_ : Nat → Int32) (T i : Nat) : Bool := decide (i < T) && letB (by_ i)
def qD (by_ : Nat → Int32) (T i : Nat) : Bool := decide (i < T) && digB (by_ i)
theorem qS_t {b : Nat → Int32} {T i : Nat} : qS b T i = true ↔ i < T ∧ b i = 32 := by simp [qS]
theorem qL_t {b : Nat → Int32} {T i : Nat} : qL b T i = true ↔ i < T ∧ letB (b i) = true := by simp [qL]
theorem qD_t {b : Nat → Int32} {T i : Nat} : qD b T i = true ↔ i < T ∧ digB (b i) = true := by simp [qD]
abbrev PS := Nat × Nat × Nat × Nat × Int32
/-- the number told so far -/
def nv (b : Nat → Int32) (s e : Nat) : Int32 := if e ≤ s then 0 else if e = s + 1 then (0 * 10 + b s) - 48 else (((0 * 10 + b s) - 48) * 10 + b (s + 1)) - 48
def tok4 (b : Nat → Int32) (T a : Nat) : PS :=
  let s := skp (qS b T) 161 a
  if s < T then
    if letB (b s) = true then (0, s, skp (qL b T) 161 s, 1, 0)
    else if digB (b s) = true then (if skp (qD b T) 161 s ≤ s + 2 then (0, s, skp (qD b T) 161 s, 2, nv b s (skp (qD b T) 161 s)) else (1, s, s, 2, 0))
    else if b s = 59 then (0, s, s + 1, 3, 0) else (1, s, s, 3, 0)
  else (0, s, s, 0, 0)
def CS (σ : Mem) (x : PS) : Prop := σ 33 2 = nI x.1 ∧ σ 33 5 = nI x.2.1 ∧ (x.1 = 0 → σ 33 3 = nI x.2.2.1 ∧ σ 33 4 = nI x.2.2.2.1 ∧ (x.2.2.2.1 = 2 → σ 33 6 = x.2.2.2.2))
theorem s2_isLetter {a : Int32} {σ : Mem} {post : Int32 → Mem → Prop} (h1 : letB a = true → post 1 σ) (h0 : ¬ letB a = true → post 0 σ) : qX2_isLetter a σ post := by
  unfold qX2_isLetter qX2_isLetter_B16 qX2_isLetter_B17
  unfold letB at h1 h0
  rw [decide_eq_true_eq] at h1 h0
  exact ⟨fun c => ⟨isB_0, h0 (fun z => z.1 c)⟩, fun c => ⟨fun d => ⟨isB_0, h0 (fun z => z.2 d)⟩, fun d => ⟨isB_1, h1 ⟨c, d⟩⟩⟩⟩
theorem s2_isFigure {a : Int32} {σ : Mem} {post : Int32 → Mem → Prop} (h1 : digB a = true → post 1 σ) (h0 : ¬ digB a = true → post 0 σ) : qX2_isFigure a σ post := by
  unfold qX2_isFigure qX2_isFigure_B16 qX2_isFigure_B17
  unfold digB at h1 h0
  rw [decide_eq_true_eq] at h1 h0
  exact ⟨fun c => ⟨isB_0, h0 (fun z => z.1 c)⟩, fun c => ⟨fun d => ⟨isB_0, h0 (fun z => z.2 d)⟩, fun d => ⟨isB_1, h1 ⟨c, d⟩⟩⟩⟩
theorem s2_takeName {T s : Nat} {σ : Mem} {post : Mem → Prop} (hT : σ 33 1 = nI T) (hT160 : T ≤ 160) (hs : s ≤ T) (ha : σ 33 3 = nI s) (h : post (up2 (up2 σ 33 4 1) 33 3 (nI (skp (qL (σ 34) T) 161 s)))) : qX2_takeName σ post := by
  unfold qX2_takeName
  rintro _ rfl
  have e0 : up2 σ 33 4 1 = up2 (up2 σ 33 4 1) 33 3 (nI s) := by
    rw [← ha]
    have := up2_self (up2 σ 33 4 1) 33 3
    rw [rd_ne (by decide)] at this
    exact this.symm
  rw [e0]
  have hle := skp_ge (qL (σ 34) T) 161 s
  have hst := skp_stop (qL (σ 34) T) (T := T) (fun i hi => (qL_t.mp hi).1) 161 s (by omega)
  refine it0_skp (q := qL (σ 34) T) (fun a => up2 (up2 σ 33 4 1) 33 3 (nI a)) 0 (fun a _ hq K hK => ?_) 161 s (Nat.zero_le _) (fun K => ?_)
  · obtain ⟨q1, q2⟩ := qL_t.mp hq
    show qX2_takeName_L5 post K (up2 (up2 σ 33 4 1) 33 3 (nI a))
    unfold qX2_takeName_L5
    rw [rd_eq, rd_ne (by decide), rd_ne (by decide), hT, rd_cj (by decide), rd_cj (by decide), tn_nI (by omega)]
    refine ⟨fun r => absurd ((nI_le_iff (by omega) (by omega)).mp r) (by omega), fun _ => ⟨in_nI (by omega) (by decide), s2_isLetter (fun _ => z1 ?_) (fun z => absurd q2 z)⟩⟩
    rw [rd_eq, up2_up2, nI_1]
    rintro _ rfl
    exact hK
  · show qX2_takeName_L5 post K (up2 (up2 σ 33 4 1) 33 3 (nI (skp (qL (σ 34) T) 161 s)))
    generalize hE : skp (qL (σ 34) T) 161 s = e at *
    have he : e ≤ T := by
      by_cases c : s < e
      · have := qL_t.mp (skp_all (qL (σ 34) T) 161 s (e - 1) (by omega) (by omega))
        omega
      · omega
    unfold qX2_takeName_L5 qX2_takeName_B44
    rw [rd_eq, rd_ne (by decide), rd_ne (by decide), hT, rd_cj (by decide), rd_cj (by decide), tn_nI (by omega), nI_le_iff (by omega) (by omega)]
    exact ⟨fun _ => h, fun r => ⟨in_nI (by omega) (by decide), s2_isLetter (fun z => absurd (qL_t.mpr ⟨by omega, z⟩) hst) (fun _ => z0 h)⟩⟩
/-- where the spaces end -/
theorem sp_le {b : Nat → Int32} {T a : Nat} (ha : a ≤ T) : skp (qS b T) 161 a ≤ T := by
  have hle := skp_ge (qS b T) 161 a
  by_cases c : a < skp (qS b T) 161 a
  · have := qS_t.mp (skp_all (qS b T) 161 a (skp (qS b T) 161 a - 1) (by omega) (by omega))
    omega
  · omega
theorem let_le {b : Nat → Int32} {T a : Nat} (ha : a ≤ T) : skp (qL b T) 161 a ≤ T := by
  have hle := skp_ge (qL b T) 161 a
  by_cases c : a < skp (qL b T) 161 a
  · have := qL_t.mp (skp_all (qL b T) 161 a (skp (qL b T) 161 a - 1) (by omega) (by omega))
    omega
  · omega
theorem dig_le {b : Nat → Int32} {T a : Nat} (ha : a ≤ T) : skp (qD b T) 161 a ≤ T := by
  have hle := skp_ge (qD b T) 161 a
  by_cases c : a < skp (qD b T) 161 a
  · have := qD_t.mp (skp_all (qD b T) 161 a (skp (qD b T) 161 a - 1) (by omega) (by omega))
    omega
  · omega
/-- figures, at most two of them -/
def tkN (σ : Mem) (s a : Nat) : Mem := up2 (up2 (up2 σ 33 4 2) 33 6 (nv (σ 34) s a)) 33 3 (nI a)
theorem s2_takeNumber {T s : Nat} {σ : Mem} {post : Mem → Prop} (hT : σ 33 1 = nI T) (hT160 : T ≤ 160) (hs : s < T) (ha : σ 33 3 = nI s) (hp : σ 33 5 = nI s) (hd : digB (σ 34 s) = true) (h1 : skp (qD (σ 34) T) 161 s ≤ s + 2 → post (tkN σ s (skp (qD (σ 34) T) 161 s))) (h0 : ¬ skp (qD (σ 34) T) 161 s ≤ s + 2 → post (up2 (tkN σ s (s + 2)) 33 2 1)) : qX2_takeNumber σ post := by
  unfold qX2_takeNumber
  rintro _ rfl _ rfl
  have e0 : up2 (up2 σ 33 4 2) 33 6 0 = tkN σ s s := by
    unfold tkN
    rw [nv, if_pos (Nat.le_refl _), ← ha]
    have := up2_self (up2 (up2 σ 33 4 2) 33 6 0) 33 3
    rw [rd_ne (by decide), rd_ne (by decide)] at this
    exact this.symm
  have rT : ∀ a, tkN σ s a 33 1 = nI T := fun a => by rw [tkN, rd_ne (by decide), rd_ne (by decide), rd_ne (by decide)]; exact hT
  have r3 : ∀ a, tkN σ s a 33 3 = nI a := fun a => rd_eq _ _ _ _
  have r5 : ∀ a, tkN σ s a 33 5 = nI s := fun a => by rw [tkN, rd_ne (by decide), rd_ne (by decide), rd_ne (by decide)]; exact hp
  have r6 : ∀ a, tkN σ s a 33 6 = nv (σ 34) s a := fun a => by rw [tkN, rd_ne (by decide), rd_eq]
  have r34 : ∀ a, tkN σ s a 34 = σ 34 := fun a => by rw [tkN, rd_c (by decide), rd_c (by decide), rd_c (by decide)]
  have up : ∀ a x, up2 (up2 (tkN σ s a) 33 6 x) 33 3 (nI (a + 1)) = up2 (up2 (up2 σ 33 4 2) 33 6 x) 33 3 (nI (a + 1)) := fun a x => by
    rw [tkN, up2_comm (up2 (up2 σ 33 4 2) 33 6 (nv (σ 34) s a)) (nI a) x (Or.inr (by decide)), up2_up2, up2_up2]
  have one : ∀ a, s ≤ a → a < s + 2 → qD (σ 34) T a = true → ∀ K : Mem → Prop, K (tkN σ s (a + 1)) → qX2_takeNumber_L10 post K (tkN σ s a) := by
    intro a h1 h2 hq K hK
    obtain ⟨q1, q2⟩ := qD_t.mp hq
    unfold qX2_takeNumber_L10
    rw [rT, r3, r34, tn_nI (by omega), nI_le_iff (by omega) (by omega)]
    refine ⟨fun r => by omega, fun _ => ⟨in_nI (by omega) (by decide), s2_isFigure (fun _ => z1 ?_) (fun z => absurd q2 z)⟩⟩
    rw [r3, r5, r6, r34, tn_nI (by omega), pk_sub h1, show (2 : Int32) = nI 2 from rfl, nI_lt_iff (by omega) (by decide)]
    refine ⟨fun _ => ⟨in_nI (by omega) (by decide), ?_⟩, fun r => by omega⟩
    rintro _ rfl
    rw [rd_ne (by decide), r3, nI_1, up]
    rintro _ rfl
    have ev : (nv (σ 34) s a * 10 + σ 34 a) - 48 = nv (σ 34) s (a + 1) := by
      unfold nv
      have : a = s ∨ a = s + 1 := by omega
      rcases this with rfl | rfl
      · rw [if_pos (Nat.le_refl _), if_neg (by omega), if_pos rfl]
      · rw [if_neg (by omega), if_pos rfl, if_neg (by omega), if_neg (by omega)]
    rw [ev]
    exact hK
  have fin : ∀ a, s ≤ a → a ≤ T → ¬ qD (σ 34) T a = true → post (tkN σ s a) → ∀ K, qX2_takeNumber_L10 post K (tkN σ s a) := by
    intro a h1 h2 hq hpost K
    unfold qX2_takeNumber_L10 qX2_takeNumber_B92
    rw [rT, r3, r34, tn_nI (by omega), nI_le_iff (by omega) (by omega)]
    exact ⟨fun _ => hpost, fun r => ⟨in_nI (by omega) (by decide), s2_isFigure (fun z => absurd (qD_t.mpr ⟨by omega, z⟩) hq) (fun _ => z0 hpost)⟩⟩
  have hqs : qD (σ 34) T s = true := qD_t.mpr ⟨hs, hd⟩
  have hge := skp_ge (qD (σ 34) T) 161 s
  have hall := skp_all (qD (σ 34) T) 161 s
  have hst := skp_stop (qD (σ 34) T) (T := T) (fun i hi => (qD_t.mp hi).1) 161 s (by omega)
  have hle := dig_le (b := σ 34) (T := T) (a := s) (by omega)
  rw [e0]
  generalize hE : skp (qD (σ 34) T) 161 s = e at *
  have hse : s < e := by
    by_cases c : e = s
    · rw [c] at hst; exact absurd hqs hst
    · omega
  by_cases c1 : e = s + 1
  · subst c1
    exact ⟨2, one s (by omega) (by omega) hqs _ (fin (s + 1) (by omega) hle hst (h1 (by omega)) _)⟩
  · have hq1 := hall (s + 1) (by omega) (by omega)
    by_cases c2 : e = s + 2
    · subst c2
      exact ⟨3, one s (by omega) (by omega) hqs _ (one (s + 1) (by omega) (by omega) hq1 _ (fin (s + 2) (by omega) hle hst (h1 (by omega)) _))⟩
    · have hq2 := hall (s + 2) (by omega) (by omega)
      obtain ⟨q1, q2⟩ := qD_t.mp hq2
      refine ⟨3, one s (by omega) (by omega) hqs _ (one (s + 1) (by omega) (by omega) hq1 _ ?_)⟩
      show qX2_takeNumber_L10 post _ (tkN σ s (s + 2))
      unfold qX2_takeNumber_L10
      rw [rT, r3, r34, tn_nI (by omega), nI_le_iff (by omega) (by omega)]
      refine ⟨fun r => by omega, fun _ => ⟨in_nI (by omega) (by decide), s2_isFigure (fun _ => z1 ?_) (fun z => absurd q2 z)⟩⟩
      rw [r3, r5, pk_sub (by omega), show (2 : Int32) = nI 2 from rfl, nI_lt_iff (by omega) (by decide)]
      refine ⟨fun r => by omega, fun _ => ?_⟩
      rintro _ rfl
      exact h0 (by omega)
theorem s2_nextToken0 {T a : Nat} {σ : Mem} {post : Mem → Prop} (hT : σ 33 1 = nI T) (hT160 : T ≤ 160) (haT : a ≤ T) (h2 : σ 33 2 = 0) (ha : σ 33 3 = nI a) (h : ∀ σ', (∀ c, c ≠ 33 → σ' c = σ c) → σ' 33 1 = σ 33 1 → σ' 33 7 = σ 33 7 → CS σ' (tok4 (σ 34) T a) → post σ') : qX2_nextToken σ post := by
  unfold qX2_nextToken
  refine cs_t h2 ?_
  have e0 : σ = up2 σ 33 3 (nI a) := by rw [← ha, up2_self]
  have hsT := sp_le (b := σ 34) haT
  have hge := skp_ge (qS (σ 34) T) 161 a
  have hst := skp_stop (qS (σ 34) T) (T := T) (fun i hi => (qS_t.mp hi).1) 161 a (by omega)
  have hall := skp_all (qS (σ 34) T) 161 a
  unfold tok4 at h
  have main : ∀ (s : Nat), s ≤ T → skp (qS (σ 34) T) 161 a = s → qX2_nextToken_B46 post (up2 σ 33 3 (nI s)) := by
    intro s hs hE
    unfold qX2_nextToken_B46
    rw [rd_eq]
    rintro _ rfl
    have q1 : ∀ j, j ≠ 3 → j ≠ 5 → up2 (up2 σ 33 3 (nI s)) 33 5 (nI s) 33 j = σ 33 j := fun j h1 h2 => by rw [rd_ne h2, rd_ne h1]
    have q3 : up2 (up2 σ 33 3 (nI s)) 33 5 (nI s) 33 3 = nI s := by rw [rd_ne (by decide), rd_eq]
    have q5 : up2 (up2 σ 33 3 (nI s)) 33 5 (nI s) 33 5 = nI s := rd_eq _ _ _ _
    have qc : ∀ c, c ≠ 33 → up2 (up2 σ 33 3 (nI s)) 33 5 (nI s) c = σ c := fun c h1 => by rw [rd_c h1, rd_c h1]
    have q34 := qc 34 (by decide)
    generalize up2 (up2 σ 33 3 (nI s)) 33 5 (nI s) = σ1 at *
    have hT1 : σ1 33 1 = nI T := by rw [q1 1 (by decide) (by decide)]; exact hT
    rw [q3, hT1, nI_lt_iff (by omega) (by omega)]
    simp only [hE] at h
    refine ⟨fun c => ⟨in_nI (by omega) (by decide), ?_⟩, fun c => ?_⟩
    · rw [if_pos c] at h
      rw [tn_nI (by omega), q34]
      refine s2_isLetter (fun d => z1 ?_) (fun d => z0 ?_)
      · rw [if_pos d] at h
        refine s2_takeName hT1 hT160 hs q3 ?_
        rw [q34]
        unfold qX2_nextToken_B154
        refine h _ (fun c hc => by rw [rd_c hc, rd_c hc, qc c hc]) (by rw [rd_ne (by decide), rd_ne (by decide), q1 1 (by decide) (by decide)]) (by rw [rd_ne (by decide), rd_ne (by decide), q1 7 (by decide) (by decide)]) ⟨?_, ?_, fun _ => ⟨rd_eq _ _ _ _, ?_, fun z => nomatch z⟩⟩
        · rw [rd_ne (by decide), rd_ne (by decide), q1 2 (by decide) (by decide)]; exact h2
        · rw [rd_ne (by decide), rd_ne (by decide)]; exact q5
        · rw [rd_ne (by decide), rd_eq]; rfl
      · rw [if_neg d] at h
        rw [q3, tn_nI (by omega), q34]
        refine ⟨in_nI (by omega) (by decide), s2_isFigure (fun g => z1 ?_) (fun g => z0 ?_)⟩
        · rw [if_pos g] at h
          unfold qX2_nextToken_B154
          have g1 : ∀ (e : Nat) (c : Nat), c ≠ 33 → tkN σ1 s e c = σ c := fun e c hc => by rw [tkN, rd_c hc, rd_c hc, rd_c hc, qc c hc]
          have g2 : ∀ (e j : Nat), j ≠ 3 → j ≠ 4 → j ≠ 6 → tkN σ1 s e 33 j = σ1 33 j := fun e j h1 h2 h3 => by rw [tkN, rd_ne h1, rd_ne h3, rd_ne h2]
          refine s2_takeNumber hT1 hT160 c q3 q5 (by rw [q34]; exact g) (fun z => ?_) (fun z => ?_)
          · rw [q34] at z ⊢
            rw [if_pos z] at h
            refine h _ (fun c hc => g1 _ c hc) (by rw [g2 _ 1 (by decide) (by decide) (by decide), q1 1 (by decide) (by decide)]) (by rw [g2 _ 7 (by decide) (by decide) (by decide), q1 7 (by decide) (by decide)]) ⟨?_, ?_, fun _ => ⟨rd_eq _ _ _ _, ?_, fun _ => ?_⟩⟩
            · rw [g2 _ 2 (by decide) (by decide) (by decide), q1 2 (by decide) (by decide)]; exact h2
            · rw [g2 _ 5 (by decide) (by decide) (by decide)]; exact q5
            · rw [tkN, rd_ne (by decide), rd_ne (by decide), rd_eq]; rfl
            · rw [tkN, rd_ne (by decide), rd_eq, q34]
          · rw [q34] at z
            rw [if_neg z] at h
            refine h _ (fun c hc => by rw [rd_c hc, g1 _ c hc]) (by rw [rd_ne (by decide), g2 _ 1 (by decide) (by decide) (by decide), q1 1 (by decide) (by decide)]) (by rw [rd_ne (by decide), g2 _ 7 (by decide) (by decide) (by decide), q1 7 (by decide) (by decide)]) ⟨rd_eq _ _ _ _, ?_, fun z => nomatch z⟩
            rw [rd_ne (by decide), g2 _ 5 (by decide) (by decide) (by decide)]; exact q5
        · rw [if_neg g] at h
          rw [q3, tn_nI (by omega), q34]
          unfold qX2_nextToken_B154
          refine ⟨in_nI (by omega) (by decide), fun r => ?_, fun r => ?_⟩
          · rw [if_neg r] at h
            rintro _ rfl
            refine h _ (fun c hc => by rw [rd_c hc, qc c hc]) (by rw [rd_ne (by decide), q1 1 (by decide) (by decide)]) (by rw [rd_ne (by decide), q1 7 (by decide) (by decide)]) ⟨rd_eq _ _ _ _, ?_, fun z => nomatch z⟩
            rw [rd_ne (by decide)]; exact q5
          · rw [if_pos r] at h
            rintro _ rfl
            rw [rd_ne (by decide), q3, nI_1]
            rintro _ rfl
            refine h _ (fun c hc => by rw [rd_c hc, rd_c hc, qc c hc]) (by rw [rd_ne (by decide), rd_ne (by decide), q1 1 (by decide) (by decide)]) (by rw [rd_ne (by decide), rd_ne (by decide), q1 7 (by decide) (by decide)]) ⟨?_, ?_, fun _ => ⟨rd_eq _ _ _ _, ?_, fun z => nomatch z⟩⟩
            · rw [rd_ne (by decide), rd_ne (by decide), q1 2 (by decide) (by decide)]; exact h2
            · rw [rd_ne (by decide), rd_ne (by decide)]; exact q5
            · rw [rd_ne (by decide), rd_eq]; rfl
    · rw [if_neg c] at h
      rintro _ rfl
      unfold qX2_nextToken_B154
      refine h _ (fun c hc => by rw [rd_c hc, qc c hc]) (by rw [rd_ne (by decide), q1 1 (by decide) (by decide)]) (by rw [rd_ne (by decide), q1 7 (by decide) (by decide)]) ⟨?_, ?_, fun _ => ⟨?_, ?_, fun z => nomatch z⟩⟩
      · rw [rd_ne (by decide), q1 2 (by decide) (by decide)]; exact h2
      · rw [rd_ne (by decide)]; exact q5
      · rw [rd_ne (by decide)]; exact q3
      · exact rd_eq _ _ _ _
  rw [e0]
  refine it0_skp (q := qS (σ 34) T) (fun a => up2 σ 33 3 (nI a)) 0 (fun i _ hq K hK => ?_) 161 a (Nat.zero_le _) (fun K => ?_)
  · obtain ⟨q1, q2⟩ := qS_t.mp hq
    show qX2_nextToken_L8 post K (up2 σ 33 3 (nI i))
    unfold qX2_nextToken_L8
    rw [rd_eq, rd_ne (by decide), hT, rd_cj (by decide), tn_nI (by omega)]
    refine ⟨fun r => absurd ((nI_le_iff (by omega) (by omega)).mp r) (by omega), fun _ => ⟨in_nI (by omega) (by decide), fun r => absurd q2 r, fun _ => ?_⟩⟩
    rw [up2_up2, nI_1]
    rintro _ rfl
    exact hK
  · show qX2_nextToken_L8 post K (up2 σ 33 3 (nI (skp (qS (σ 34) T) 161 a)))
    have M := main _ hsT rfl
    generalize hE : skp (qS (σ 34) T) 161 a = s at *
    unfold qX2_nextToken_L8
    rw [rd_eq, rd_ne (by decide), hT, rd_cj (by decide), tn_nI (by omega), nI_le_iff (by omega) (by omega)]
    exact ⟨fun _ => M, fun r => ⟨in_nI (by omega) (by decide), fun _ => M, fun z => absurd (qS_t.mpr ⟨by omega, z⟩) hst⟩⟩
