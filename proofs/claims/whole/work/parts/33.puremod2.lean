/-! PURE, 4: the reference: copies, runs, tests -/
theorem Sm.copy {p q W A : Nat} {τ τ' ρ : Mem} {d l : Int32} (h : Sm p W A τ ρ d l) (hW : W ≤ 4) (hA : A ≤ 16) (e : ∀ k, k < 39 → τ' 1 (q + k) = τ 1 (p + k)) : Sm q W A τ' ρ d l := by
  obtain ⟨h1, h2, h3, h4, h5, h6, h7, h8, h9⟩ := h
  refine ⟨?_, ?_, ?_, ?_, ?_, ?_, ?_, fun i hi => ?_, fun i hi => ?_⟩
  · rw [e 34 (by decide)]; exact h1
  · rw [e 35 (by decide)]; exact h2
  · rw [e 16 (by decide)]; exact h3
  · rw [e 33 (by decide)]; exact h4
  · rw [e 36 (by decide)]; exact h5
  · rw [e 37 (by decide)]; exact h6
  · rw [e 38 (by decide)]; exact h7
  · obtain ⟨g1, g2, g3, g4⟩ := h8 i hi
    refine ⟨?_, ?_, ?_, ?_⟩
    · rw [e i (by omega)]; exact g1
    · rw [Nat.add_assoc, e (4 + i) (by omega), ← Nat.add_assoc]; exact g2
    · rw [Nat.add_assoc, e (8 + i) (by omega), ← Nat.add_assoc]; exact g3
    · rw [Nat.add_assoc, e (12 + i) (by omega), ← Nat.add_assoc]; exact g4
  · rw [Nat.add_assoc, e (17 + i) (by omega), ← Nat.add_assoc]; exact h9 i hi
theorem s4_copies {p q : Nat} {τ : Mem} {post : Mem → Prop} (hp : p ≤ 195) (hq : q ≤ 195) (hpq : p + 39 ≤ q ∨ q + 39 ≤ p) (h : ∀ τ', (∀ k, k < 39 → τ' 1 (q + k) = τ 1 (p + k)) → (∀ k, (k < q ∨ q + 39 ≤ k) → τ' 1 k = τ 1 k) → (∀ c, c ≠ 1 → τ' c = τ c) → post τ') : qX4_copies (nI p) (nI q) τ post := by
  unfold qX4_copies
  refine it1_inv 39 (fun k x τ' => x = nI k ∧ (∀ j, j < k → τ' 1 (q + j) = τ 1 (p + j)) ∧ (∀ j, (j < q ∨ q + 39 ≤ j) → τ' 1 j = τ 1 j) ∧ (∀ c, c ≠ 1 → τ' c = τ c)) (fun k hk x τ' hI K hK => ?_) (fun x τ' hI K => ?_) 0 τ ⟨nI_0.symm, fun j hj => absurd hj (Nat.not_lt_zero j), fun _ _ => rfl, fun _ _ => rfl⟩
  · obtain ⟨rfl, h1, h2, h3⟩ := hI
    unfold qX4_copies_L2
    rw [nI_add, nI_add, tn_nI (by omega), tn_nI (by omega)]
    refine ⟨fun z => absurd ((nI_le_iff (a := 39) (by omega) (by omega)).mp z) (by omega), fun _ => ⟨in_nI (by omega) (by decide), in_nI (by omega) (by decide), ?_⟩⟩
    rintro _ rfl _ rfl
    refine hK _ _ ⟨nI_1 k, fun j hj => ?_, fun j hj => ?_, fun c hc => ?_⟩
    · by_cases e : j = k
      · subst e; rw [rd_eq]; exact h2 _ (by omega)
      · rw [rd_ne (by omega)]; exact h1 j (by omega)
    · rw [rd_ne (by omega)]; exact h2 j hj
    · rw [rd_c hc]; exact h3 c hc
  · obtain ⟨rfl, h1, h2, h3⟩ := hI
    unfold qX4_copies_L2
    exact ⟨fun _ => h _ h1 h2 h3, fun z => absurd (Int32.le_refl _) z⟩
/-- a run of the reference, with a wheel taken off, an act left out -/
def o_runE (fr om : Int32) : Nat → Mem → Mem
  | 0, ρ => ρ
  | n + 1, ρ => o_tickW (effT fr om 0 (o_runE fr om n ρ)) (o_runE fr om n ρ)
def fastE (fr om : Int32) (ρ : Mem) : Nat → Int32
  | 0 => quo (ρ 0 1) (ρ 0 0)
  | n + 1 => iMax (fastE fr om ρ n) (quo (o_runE fr om (n + 1) ρ 0 1) (ρ 0 0))
theorem Vd.runE {W A t : Nat} {ρ : Mem} (fr om : Int32) (h : Vd W A t ρ) : ∀ n, t + n < 20000 → Vd W A (t + n) (o_runE fr om n ρ)
  | 0, _ => h
  | n + 1, hn => (Vd.runE fr om h n (by omega)).tickW _ (by omega)
theorem tickW_00 (v : Int32) (ρ : Mem) : o_tickW v ρ 0 0 = ρ 0 0 := by rw [o_tickW, o_tickT, rd_ne (by decide), (St.lp _ v ρ).1]
theorem runE_00 (fr om : Int32) (ρ : Mem) : ∀ n, o_runE fr om n ρ 0 0 = ρ 0 0
  | 0 => rfl
  | n + 1 => by rw [o_runE, tickW_00, runE_00 fr om ρ n]
theorem effT_due {W A t : Nat} {ρ : Mem} (h : Vd W A t ρ) : effT (-4) (-4) 0 ρ = o_due ρ := by
  obtain ⟨-, -, v3, v4, v5, v6, -, -, v9⟩ := h
  unfold effT o_due
  by_cases c : ρ 0 7 ≤ 0
  · rw [if_pos c, if_pos c]
  · rw [if_neg c, if_neg c]
    have hA : 0 < A := by
      rcases Nat.eq_zero_or_pos A with z | z
      · rw [v3, z] at c; exact absurd (Int32.le_refl 0) c
      · exact z
    have hl := Nat.mod_lt t hA
    rw [v3, v5, remI_nI (by omega) hA (by omega), tn_nI (by omega)]
    obtain ⟨x, ex, hx⟩ := v9 _ hl
    have n4 : ∀ n : Nat, n < 2147483648 → ¬ nI n = -4 := by
      intro n hn z
      have z2 := congrArg Int32.toInt z
      rw [nI_toInt hn] at z2
      have : (-4 : Int32).toInt = -4 := rfl
      omega
    rw [if_neg (n4 _ (by omega)), ex, effA]
    by_cases c1 : (100 : Int32) ≤ nI x
    · rw [if_pos c1, if_neg]
      rintro ⟨c2, c3⟩
      have hx2 : 200 ≤ x := (nI_le_iff (a := 200) (by decide) (by omega)).mp c2
      rw [show (200 : Int32) = nI 200 from rfl, pk_sub hx2] at c3
      exact n4 _ (by omega) c3
    · rw [if_neg c1, if_pos rfl]
theorem runE_run {W A t : Nat} {ρ : Mem} (h : Vd W A t ρ) : ∀ n, t + n < 20000 → o_runE (-4) (-4) n ρ = o_run n ρ
  | 0, _ => rfl
  | n + 1, hn => by
    have hr := h.run n (by omega)
    rw [o_runE, runE_run h n (by omega), effT_due hr]
    rfl
/-- ticks of a page, tried -/
theorem s4_ticksGo {p W A t n : Nat} {τ ρ : Mem} {post : Int32 → Mem → Prop} (hp : p = 0 ∨ p = 195) (hS : Sm p W A τ ρ (τ 1 37) (τ 1 38)) (hV : Vd W A t ρ) (hn : t + n < 20000) (h : ∀ τ', Sm 156 W A τ' (o_runE (τ 0 14) (τ 0 15) n ρ) (τ 1 37) (τ 1 38) → Fm 156 τ τ' → (ρ 0 12 = 0 → τ' 0 16 = o_runE (τ 0 14) (τ 0 15) n ρ 0 12) → τ' 0 17 = fastE (τ 0 14) (τ 0 15) ρ n → post (o_runE (τ 0 14) (τ 0 15) n ρ 0 10) τ') : qX4_ticksGo (nI p) (nI n) τ post := by
  unfold qX4_ticksGo
  have hW := hV.2.1
  have hA := hV.2.2.2.1
  refine s4_copies (q := 156) (by omega) (by decide) (by omega) (fun τ1 e1 e2 e3 => ?_)
  have s1 : Sm 156 W A τ1 ρ (τ 1 37) (τ 1 38) := hS.copy hW hA e1
  rintro _ rfl
  refine s4_speedOn (p := 156) (by decide) (s1.up0 16 0) hV ?_
  rintro _ rfl
  have f1 : Fm 156 τ (up2 (up2 τ1 0 16 0) 0 17 (quo (ρ 0 1) (ρ 0 0))) := by
    refine (Fm.up0 (Fm.up0 ?_ (Or.inl rfl) _) (Or.inr rfl) _)
    exact ⟨fun c h0 h1 => e3 c h1, fun k _ _ => by rw [e3 0 (by decide)], e2⟩
  refine it1_inv n (fun k x τ' => x = nI k ∧ Sm 156 W A τ' (o_runE (τ 0 14) (τ 0 15) k ρ) (τ 1 37) (τ 1 38) ∧ Fm 156 τ τ' ∧ (ρ 0 12 = 0 → τ' 0 16 = o_runE (τ 0 14) (τ 0 15) k ρ 0 12) ∧ τ' 0 17 = fastE (τ 0 14) (τ 0 15) ρ k) (fun k hk x τ' hI K hK => ?_) (fun x τ' hI K => ?_) 0 _ ⟨nI_0.symm, (s1.up0 _ _).up0 _ _, f1, fun z => by rw [rd_ne (by decide), rd_eq]; exact z.symm, by rw [rd_eq]; rfl⟩
  · obtain ⟨rfl, s, f, tk, f17⟩ := hI
    unfold qX4_ticksGo_L26
    refine ⟨fun z => absurd ((nI_le_iff (by omega) (by omega)).mp z) (by omega), fun _ => ?_⟩
    refine s4_tickOn (p := 156) (by decide) s (hV.runE _ _ k (by omega)) (by omega) (fun τ2 s2 f2 k2 m2 => ?_)
    rw [f.2.1 14 (by decide) (by decide), f.2.1 15 (by decide) (by decide)] at s2 k2 m2
    rintro _ rfl
    refine hK _ _ ⟨nI_1 k, s2, f.tr f2, fun z => ?_, ?_⟩
    · have := k2 0 (by unfold Tk; rw [tk z, Int32.add_zero])
      unfold Tk at this
      rw [this, Int32.add_zero]
      rfl
    · rw [m2, f17, fastE, runE_00]; rfl
  · obtain ⟨rfl, s, f, tk, f17⟩ := hI
    unfold qX4_ticksGo_L26
    refine ⟨fun _ => ⟨vl193_234, vl37_234, ?_⟩, fun z => absurd (Int32.le_refl _) z⟩
    rw [tl193, tl37]
    have e193 : τ' 1 193 = o_runE (τ 0 14) (τ 0 15) n ρ 0 10 + τ 1 37 := s.2.2.2.2.2.1
    have e37 : τ' 1 37 = τ 1 37 := f.2.2 37 (by decide)
    rw [e193, e37, Int32.add_sub_cancel]
    exact h τ' s f tk f17
theorem s4_lackThen {W A : Nat} {τ τ' ρ : Mem} {d l : Int32} {post : Int32 → Mem → Prop} (s : Sm 156 W A τ' ρ d l) (e : τ' 1 38 = l) (h : post (ρ 0 11) τ') : qX4_lackThen τ' post := by
  unfold qX4_lackThen
  rw [tl194, tl38]
  have e194 : τ' 1 194 = ρ 0 11 + l := s.2.2.2.2.2.2.1
  rw [e194, e, Int32.add_sub_cancel]
  exact ⟨vl194_234, vl38_234, h⟩
theorem s4_swingOn {p W A t : Nat} {τ ρ : Mem} {d l : Int32} {post : Int32 → Mem → Prop} (hp : p ≤ 195) (hS : Sm p W A τ ρ d l) (hV : Vd W A t ρ) (h : post (ρ 0 1 + sumN (ρ 4) W) τ) : qX4_swingOn (nI p) τ post := by
  unfold qX4_swingOn
  have hW := hV.2.1
  rw [ix35, tn_nI (by omega), hS.2.1]
  refine ⟨in_nI (by omega) (by decide), ?_⟩
  rintro _ rfl
  refine it2_inv W (fun k x y τ' => x = ρ 0 1 + sumN (ρ 4) k ∧ y = nI k ∧ τ' = τ) (fun k hk x y τ' hI K hK => ?_) (fun x y τ' hI K => ?_) (ρ 0 1) 0 τ ⟨by rw [sumN, Int32.add_zero], nI_0.symm, rfl⟩
  · obtain ⟨rfl, rfl, rfl⟩ := hI
    unfold qX4_swingOn_L12
    rw [ix16, ix12, nI_add, tn_nI (by omega), tn_nI (by omega), hS.2.2.1, hV.1, (hS.2.2.2.2.2.2.2.1 k hk).2.2.2]
    refine ⟨in_nI (by omega) (by decide), fun z => absurd ((nI_le_iff (by omega) (by omega)).mp z) (by omega), fun _ => ⟨in_nI (by omega) (by decide), ?_⟩⟩
    rintro _ rfl _ rfl
    exact hK _ _ _ ⟨by rw [sumN, Int32.add_assoc], nI_1 k, rfl⟩
  · obtain ⟨rfl, rfl, rfl⟩ := hI
    unfold qX4_swingOn_L12
    rw [ix16, tn_nI (by omega), hS.2.2.1, hV.1]
    exact ⟨in_nI (by omega) (by decide), fun _ => h, fun z => absurd (Int32.le_refl _) z⟩
theorem pred_lt {W : Nat} (hW : W < 1073741824) (a : Int32) : nI W - 1 < a ↔ nI W ≤ a := by
  have h1 : (nI W - nI 1).toInt = (W : Int) - (1 : Nat) := pk_sub_toInt hW (by decide)
  rw [i32_lt, i32_le, show (1 : Int32) = nI 1 from rfl, h1, nI_toInt (by omega)]
  omega
theorem s4_isWheel {W : Nat} {a1 : Int32} {τ : Mem} {post : Int32 → Mem → Prop} (hw : τ 1 16 = nI W) (hW : W ≤ 4) (h1 : ¬ a1 < 0 → ¬ nI W ≤ a1 → post 1 τ) (h0 : (a1 < 0 ∨ nI W ≤ a1) → post 0 τ) : qX4_isWheel a1 τ post := by
  unfold qX4_isWheel
  rw [tl16, hw]
  refine ⟨vl16_234, s4_in (lo := 0) rfl rfl (fun c1 c2 => ⟨isB_1, h1 c1 (fun z => c2 ((pred_lt (by omega) a1).mpr z))⟩) (fun c => ⟨isB_0, h0 (c.imp id (pred_lt (by omega) a1).mp)⟩)⟩
theorem s4_isAct {A : Nat} {a1 : Int32} {τ : Mem} {post : Int32 → Mem → Prop} (hw : τ 1 33 = nI A) (hA : A ≤ 16) (h1 : ¬ a1 < 0 → ¬ nI A ≤ a1 → post 1 τ) (h0 : (a1 < 0 ∨ nI A ≤ a1) → post 0 τ) : qX4_isAct a1 τ post := by
  unfold qX4_isAct
  rw [tl33, hw]
  refine ⟨vl33_234, s4_in (lo := 0) rfl rfl (fun c1 c2 => ⟨isB_1, h1 c1 (fun z => c2 ((pred_lt (by omega) a1).mpr z))⟩) (fun c => ⟨isB_0, h0 (c.imp id (pred_lt (by omega) a1).mp)⟩)⟩
theorem s4_isLong {a0 : Int32} {τ : Mem} {post : Int32 → Mem → Prop} (h1 : ¬ a0 < 0 → ¬ 200 < a0 → post 1 τ) (h0 : (a0 < 0 ∨ 200 < a0) → post 0 τ) : qX4_isLong a0 τ post := by
  unfold qX4_isLong
  exact s4_in (lo := 0) (hi := 200) rfl rfl (fun c1 c2 => ⟨isB_1, h1 c1 c2⟩) (fun c => ⟨isB_0, h0 c⟩)
theorem s4_puts1 {a1 a2 a3 a4 : Int32} {τ : Mem} {post : Int32 → Mem → Prop} {k : Nat} (hk : a2 = nI k) (hlt : k < 234) (h1 : ¬ a1 = 0 → post (τ 1 k + a4) (up2 τ 1 k (a3 - a4))) (h0 : a1 = 0 → post (-1) τ) : qX4_puts a1 a2 a3 a4 τ post := by
  unfold qX4_puts
  subst hk
  rw [tn_nI (by omega)]
  refine ⟨fun c => ⟨in_nI hlt (by decide), ?_⟩, h0⟩
  rintro _ rfl _ rfl
  exact h1 c
/-- an index that both sides accept -/
theorem idx_of {a : Int32} {W : Nat} (h0 : ¬ a < 0) (h1 : ¬ nI W ≤ a) (hW : W < 2147483648) : ∃ w, w < W ∧ a = nI w := by
  obtain ⟨j, hj, rfl⟩ := nI_of h0
  exact ⟨j, by rw [nI_le_iff hW hj] at h1; omega, rfl⟩
theorem rng_of {a : Int32} (lo hi : Nat) (h0 : ¬ a < nI lo) (h1 : ¬ nI hi < a) (hh : hi < 2147483648) (hl : lo < 2147483648) : ∃ w, lo ≤ w ∧ w ≤ hi ∧ a = nI w := by
  have hz : ¬ a < 0 := by
    rw [i32_lt, nI_toInt hl] at h0
    rw [i32_lt]
    have : (0 : Int32).toInt = 0 := rfl
    omega
  obtain ⟨j, hj, rfl⟩ := nI_of hz
  rw [nI_lt_iff hj hl] at h0
  rw [nI_lt_iff hh hj] at h1
  exact ⟨j, by omega, by omega, rfl⟩
