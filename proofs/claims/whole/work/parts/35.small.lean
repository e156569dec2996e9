/-! PURE, 6: the calls that set one thing -/
theorem cs_t {a b : Int32} {P Q : Prop} (e : a = b) (h : P) : (a = b → P) ∧ (¬ a = b → Q) := ⟨fun _ => h, fun z => absurd e z⟩
theorem cs_f {a b : Int32} {P Q : Prop} (e : ¬ a = b) (h : Q) : (a = b → P) ∧ (¬ a = b → Q) := ⟨fun z => absurd z e, fun _ => h⟩
theorem ds_t {a b : Int32} {P Q : Prop} (e : a = b) (h : P) : (¬ a = b → Q) ∧ (a = b → P) := ⟨fun z => absurd e z, fun _ => h⟩
theorem ds_f {a b : Int32} {P Q : Prop} (e : ¬ a = b) (h : Q) : (¬ a = b → Q) ∧ (a = b → P) := ⟨fun _ => h, fun z => absurd z e⟩
theorem up_eq {τ ρ : Mem} {c k c' k' a b a' b' : Nat} (x : Int32) (e : τ c k = ρ c' k') (i : (c = a ∧ k = b) ↔ (c' = a' ∧ k' = b')) : up2 τ a b x c k = up2 ρ a' b' x c' k' := by
  rw [rd_if, rd_if]
  by_cases q : c = a ∧ k = b
  · rw [if_pos q, if_pos (i.mp q)]
  · rw [if_neg q, if_neg (fun z => q (i.mpr z)), e]
theorem Sm.arr {p W A : Nat} {τ ρ : Mem} {d l : Int32} (h : Sm p W A τ ρ d l) (hW : W ≤ 4) (hA : A ≤ 16) {j w : Nat} (hj : j ≤ 3) (hw : w < 4) (x : Int32) : Sm p W A (up2 τ 1 (p + 4 * j + w) x) (up2 ρ (j + 1) w x) d l := by
  obtain ⟨h1, h2, h3, h4, h5, h6, h7, h8, h9⟩ := h
  refine ⟨?_, up_eq x h2 (by omega), up_eq x h3 (by omega), up_eq x h4 (by omega), up_eq x h5 (by omega), ?_, ?_, fun i hi => ?_, fun i hi => up_eq x (h9 i hi) (by omega)⟩
  · rw [rd_ne (by omega), rd_cj (by omega)]; exact h1
  · rw [rd_ne (by omega), rd_cj (by omega)]; exact h6
  · rw [rd_ne (by omega), rd_cj (by omega)]; exact h7
  · obtain ⟨g1, g2, g3, g4⟩ := h8 i hi
    exact ⟨up_eq x g1 (by omega), up_eq x g2 (by omega), up_eq x g3 (by omega), up_eq x g4 (by omega)⟩
theorem Sm.act {p W A : Nat} {τ ρ : Mem} {d l : Int32} (h : Sm p W A τ ρ d l) (hW : W ≤ 4) (hA : A ≤ 16) {w : Nat} (hw : w < 16) (x : Int32) : Sm p W A (up2 τ 1 (p + 17 + w) x) (up2 ρ 5 w x) d l := by
  obtain ⟨h1, h2, h3, h4, h5, h6, h7, h8, h9⟩ := h
  refine ⟨?_, up_eq x h2 (by omega), up_eq x h3 (by omega), up_eq x h4 (by omega), up_eq x h5 (by omega), ?_, ?_, fun i hi => ?_, fun i hi => up_eq x (h9 i hi) (by omega)⟩
  · rw [rd_ne (by omega), rd_cj (by omega)]; exact h1
  · rw [rd_ne (by omega), rd_cj (by omega)]; exact h6
  · rw [rd_ne (by omega), rd_cj (by omega)]; exact h7
  · obtain ⟨g1, g2, g3, g4⟩ := h8 i hi
    exact ⟨up_eq x g1 (by omega), up_eq x g2 (by omega), up_eq x g3 (by omega), up_eq x g4 (by omega)⟩
theorem Sm.ms {p W A : Nat} {τ ρ : Mem} {d l : Int32} (h : Sm p W A τ ρ d l) (hW : W ≤ 4) (hA : A ≤ 16) (x : Int32) : Sm p W A (up2 τ 1 (p + 34) (x - 5)) (up2 ρ 0 0 x) d l := by
  obtain ⟨h1, h2, h3, h4, h5, h6, h7, h8, h9⟩ := h
  refine ⟨?_, ?_, ?_, ?_, ?_, ?_, ?_, fun i hi => ?_, fun i hi => ?_⟩
  · rw [rd_eq, rd_eq, Int32.sub_add_cancel]
  · rw [rd_ne (by omega), rd_ne (by omega)]; exact h2
  · rw [rd_ne (by omega), rd_ne (by omega)]; exact h3
  · rw [rd_ne (by omega), rd_ne (by omega)]; exact h4
  · rw [rd_ne (by omega), rd_ne (by omega)]; exact h5
  · rw [rd_ne (by omega), rd_ne (by omega)]; exact h6
  · rw [rd_ne (by omega), rd_ne (by omega)]; exact h7
  · obtain ⟨g1, g2, g3, g4⟩ := h8 i hi
    rw [rd_ne (by omega), rd_ne (by omega), rd_ne (by omega), rd_ne (by omega), rd_c (by decide), rd_c (by decide), rd_c (by decide), rd_c (by decide)]
    exact ⟨g1, g2, g3, g4⟩
  · rw [rd_ne (by omega), rd_c (by decide)]; exact h9 i hi
theorem Sm.setW {p W A : Nat} {τ ρ : Mem} {d l : Int32} (h : Sm p W A τ ρ d l) (hA : A ≤ 16) (W' : Nat) (hW' : W' ≤ 4) (x : Int32) (nw : ∀ i, W ≤ i → i < W' → τ 1 (p + i) = ρ 1 i ∧ τ 1 (p + 4 + i) = ρ 2 i ∧ τ 1 (p + 8 + i) = ρ 3 i ∧ τ 1 (p + 12 + i) = ρ 4 i) : Sm p W' A (up2 τ 1 (p + 16) x) (up2 ρ 0 2 x) d l := by
  obtain ⟨h1, h2, h3, h4, h5, h6, h7, h8, h9⟩ := h
  refine ⟨?_, up_eq x h2 (by omega), up_eq x h3 (by omega), up_eq x h4 (by omega), up_eq x h5 (by omega), ?_, ?_, fun i hi => ?_, fun i hi => up_eq x (h9 i hi) (by omega)⟩
  · rw [rd_ne (by omega), rd_ne (by omega)]; exact h1
  · rw [rd_ne (by omega), rd_ne (by omega)]; exact h6
  · rw [rd_ne (by omega), rd_ne (by omega)]; exact h7
  · have : τ 1 (p + i) = ρ 1 i ∧ τ 1 (p + 4 + i) = ρ 2 i ∧ τ 1 (p + 8 + i) = ρ 3 i ∧ τ 1 (p + 12 + i) = ρ 4 i := by
      by_cases q : i < W
      · exact h8 i q
      · exact nw i (by omega) hi
    obtain ⟨g1, g2, g3, g4⟩ := this
    exact ⟨up_eq x g1 (by omega), up_eq x g2 (by omega), up_eq x g3 (by omega), up_eq x g4 (by omega)⟩
theorem Sm.setA {p W A : Nat} {τ ρ : Mem} {d l : Int32} (h : Sm p W A τ ρ d l) (hW : W ≤ 4) (A' : Nat) (hA' : A' ≤ 16) (x : Int32) (nw : ∀ i, A ≤ i → i < A' → τ 1 (p + 17 + i) = ρ 5 i) : Sm p W A' (up2 τ 1 (p + 33) x) (up2 ρ 0 7 x) d l := by
  obtain ⟨h1, h2, h3, h4, h5, h6, h7, h8, h9⟩ := h
  refine ⟨?_, up_eq x h2 (by omega), up_eq x h3 (by omega), up_eq x h4 (by omega), up_eq x h5 (by omega), ?_, ?_, fun i hi => ?_, fun i hi => ?_⟩
  · rw [rd_ne (by omega), rd_ne (by omega)]; exact h1
  · rw [rd_ne (by omega), rd_ne (by omega)]; exact h6
  · rw [rd_ne (by omega), rd_ne (by omega)]; exact h7
  · obtain ⟨g1, g2, g3, g4⟩ := h8 i hi
    exact ⟨up_eq x g1 (by omega), up_eq x g2 (by omega), up_eq x g3 (by omega), up_eq x g4 (by omega)⟩
  · have : τ 1 (p + 17 + i) = ρ 5 i := by
      by_cases q : i < A
      · exact h9 i q
      · exact nw i (by omega) hi
    exact up_eq x this (by omega)
theorem Vd.ms {W A t m : Nat} {ρ : Mem} (h : Vd W A t ρ) (h1 : 1 ≤ m) (h2 : m ≤ 20) : Vd W A t (up2 ρ 0 0 (nI m)) := by
  obtain ⟨v1, v2, v3, v4, v5, v6, v7, v8, v9⟩ := h
  exact ⟨v1, v2, v3, v4, v5, v6, ⟨m, rd_eq _ _ _ _, h1, h2⟩, v8, v9⟩
theorem Vd.k {W A t w k : Nat} {ρ : Mem} (h : Vd W A t ρ) (hk : k ≤ 3) : Vd W A t (up2 ρ 1 w (nI k)) := by
  obtain ⟨v1, v2, v3, v4, v5, v6, v7, v8, v9⟩ := h
  refine ⟨v1, v2, v3, v4, v5, v6, v7, fun i hi => ?_, v9⟩
  obtain ⟨g1, g2, g3⟩ := v8 i hi
  refine ⟨?_, g2, g3⟩
  by_cases e : i = w
  · subst e; exact ⟨k, rd_eq _ _ _ _, hk⟩
  · rw [rd_ne e]; exact g1
theorem Vd.m {W A t w m : Nat} {ρ : Mem} (h : Vd W A t ρ) (h1 : 1 ≤ m) (h2 : m ≤ 20) : Vd W A t (up2 ρ 2 w (nI m)) := by
  obtain ⟨v1, v2, v3, v4, v5, v6, v7, v8, v9⟩ := h
  refine ⟨v1, v2, v3, v4, v5, v6, v7, fun i hi => ?_, v9⟩
  obtain ⟨g1, g2, g3⟩ := v8 i hi
  refine ⟨g1, ?_, g3⟩
  by_cases e : i = w
  · subst e; exact ⟨m, rd_eq _ _ _ _, h1, h2⟩
  · rw [rd_ne e]; exact g2
theorem Vd.l {W A t w k : Nat} {ρ : Mem} (h : Vd W A t ρ) (hk : k ≤ 9) : Vd W A t (up2 ρ 3 w (nI k)) := by
  obtain ⟨v1, v2, v3, v4, v5, v6, v7, v8, v9⟩ := h
  refine ⟨v1, v2, v3, v4, v5, v6, v7, fun i hi => ?_, v9⟩
  obtain ⟨g1, g2, g3⟩ := v8 i hi
  refine ⟨g1, g2, ?_⟩
  by_cases e : i = w
  · subst e; exact ⟨k, rd_eq _ _ _ _, hk⟩
  · rw [rd_ne e]; exact g3
theorem Vd.p {W A t w k : Nat} {ρ : Mem} (h : Vd W A t ρ) (hk : k ≤ 203) : Vd W A t (up2 ρ 5 w (nI k)) := by
  obtain ⟨v1, v2, v3, v4, v5, v6, v7, v8, v9⟩ := h
  refine ⟨v1, v2, v3, v4, v5, v6, v7, v8, fun i hi => ?_⟩
  by_cases e : i = w
  · subst e; exact ⟨k, rd_eq _ _ _ _, hk⟩
  · rw [rd_ne e]; exact v9 i hi
theorem Vd.setW {W A t : Nat} {ρ : Mem} (h : Vd W A t ρ) (W' : Nat) (hW' : W' ≤ 4) (nw : ∀ i, W ≤ i → i < W' → (∃ k, ρ 1 i = nI k ∧ k ≤ 3) ∧ (∃ m, ρ 2 i = nI m ∧ 1 ≤ m ∧ m ≤ 20) ∧ (∃ k, ρ 3 i = nI k ∧ k ≤ 9)) : Vd W' A t (up2 ρ 0 2 (nI W')) := by
  obtain ⟨v1, v2, v3, v4, v5, v6, v7, v8, v9⟩ := h
  refine ⟨rd_eq _ _ _ _, hW', v3, v4, v5, v6, v7, fun i hi => ?_, v9⟩
  by_cases e : i < W
  · exact v8 i e
  · exact nw i (by omega) hi
theorem Vd.setA {W A t : Nat} {ρ : Mem} (h : Vd W A t ρ) (A' : Nat) (hA' : A' ≤ 16) (nw : ∀ i, A ≤ i → i < A' → ∃ v, ρ 5 i = nI v ∧ v ≤ 203) : Vd W A' t (up2 ρ 0 7 (nI A')) := by
  obtain ⟨v1, v2, v3, v4, v5, v6, v7, v8, v9⟩ := h
  refine ⟨v1, v2, rd_eq _ _ _ _, hA', v5, v6, v7, v8, fun i hi => ?_⟩
  by_cases e : i < A
  · exact v9 i e
  · exact nw i (by omega) hi
theorem Bd.fr {W S : Nat} {ρ ρ' : Mem} (h : Bd W S ρ) (e1 : ρ' 0 1 = ρ 0 1) (e2 : ρ' 4 = ρ 4) : Bd W S ρ' := by
  unfold Bd
  rw [e1, e2]
  exact h
theorem sumF_le (f : Nat → Nat) {a b : Nat} (h : a ≤ b) : sumF f a ≤ sumF f b := by
  induction b with
  | zero => have : a = 0 := by omega
            subst this; exact Nat.le_refl _
  | succ b ih =>
    by_cases e : a = b + 1
    · subst e; exact Nat.le_refl _
    · have := ih (by omega)
      rw [sumF]
      omega
theorem sumF_set (f : Nat → Nat) (w x : Nat) : ∀ k, sumF (fun i => if i = w then x else f i) k + (if w < k then f w else 0) = sumF f k + (if w < k then x else 0)
  | 0 => by simp [sumF]
  | k + 1 => by
    have ih := sumF_set f w x k
    rw [sumF, sumF]
    by_cases e : k = w
    · subst e
      rw [if_neg (Nat.lt_irrefl _), if_neg (Nat.lt_irrefl _)] at ih
      rw [if_pos rfl, if_pos (Nat.lt_succ_self _), if_pos (Nat.lt_succ_self _)]
      omega
    · rw [if_neg e]
      by_cases q : w < k
      · rw [if_pos q, if_pos q] at ih
        rw [if_pos (by omega), if_pos (by omega)]
        omega
      · rw [if_neg q, if_neg q] at ih
        rw [if_neg (by omega), if_neg (by omega)]
        omega
theorem Bd.le {W W' S : Nat} {ρ : Mem} (h : Bd W S ρ) (hW : W' ≤ W) : Bd W' S ρ := by
  obtain ⟨s, f, h1, h2, h3⟩ := h
  have := sumF_le f hW
  exact ⟨s, f, h1, fun i hi => h2 i (by omega), by omega⟩
/-- one wheel's swing set -/
theorem Bd.sw {W S w x : Nat} {ρ : Mem} (h : Bd W S ρ) : Bd W (S + x) (up2 ρ 4 w (nI x)) := by
  obtain ⟨s, f, h1, h2, h3⟩ := h
  refine ⟨s, fun i => if i = w then x else f i, h1, fun i hi => ?_, ?_⟩
  · show up2 ρ 4 w (nI x) 4 i = nI (if i = w then x else f i)
    by_cases e : i = w
    · subst e; rw [rd_eq, if_pos rfl]
    · rw [rd_ne e, if_neg e]; exact h2 i hi
  · have := sumF_set f w x W
    by_cases q : w < W
    · rw [if_pos q, if_pos q] at this; omega
    · rw [if_neg q, if_neg q] at this; omega
theorem Bd.grow {W S : Nat} {ρ : Mem} (h : Bd W S ρ) (e : ρ 4 W = 0) : Bd (W + 1) S ρ := by
  obtain ⟨s, f, h1, h2, h3⟩ := h
  refine ⟨s, fun i => if i = W then 0 else f i, h1, fun i hi => ?_, ?_⟩
  · show ρ 4 i = nI (if i = W then 0 else f i)
    by_cases q : i = W
    · subst q; rw [if_pos rfl, e]; exact nI_0.symm
    · rw [if_neg q]; exact h2 i (by omega)
  · have := sumF_set f W 0 W
    rw [if_neg (Nat.lt_irrefl _), if_neg (Nat.lt_irrefl _)] at this
    rw [sumF, if_pos rfl]
    omega
/-- only the rig and its page -/
theorem fr_c {n : Nat} {σ τ σ' τ' : Mem} (h : fw_Rel n σ τ) (f : Fc 1 σ σ') (g : Fm 0 τ τ') (r1 : R1 (n + 1) σ' τ') : fw_Rel (n + 1) σ' τ' :=
  fr_1 h r1 (fun c h1 _ _ => f c (by omega)) (by rw [f 33 (by omega)]) (fun k h1 _ => g.2.2 k (by omega)) (fun c h0 h1 _ _ => g.1 c h0 h1) (fun k hk => g.2.1 k (by omega) (by omega))
theorem R1.get {n : Nat} {σ τ : Mem} (h : R1 n σ τ) : ∃ W A t, Vd W A t (rg 1 σ) ∧ t < 10000 ∧ Sm 0 W A τ (rg 1 σ) 0 0 ∧ Bd W (10000 * n) (rg 1 σ) := h
theorem Sm.w {W A t : Nat} {τ ρ : Mem} {d l : Int32} (s : Sm 0 W A τ ρ d l) (v : Vd W A t ρ) : τ 1 16 = nI W := by
  have := s.2.2.1
  rw [v.1] at this
  exact this
theorem Sm.a {W A t : Nat} {τ ρ : Mem} {d l : Int32} (s : Sm 0 W A τ ρ d l) (v : Vd W A t ρ) : τ 1 33 = nI A := by
  have := s.2.2.2.1
  rw [v.2.2.1] at this
  exact this
theorem h_shaft : fp_shaft fw_Rel := by
  intro n σ τ a1 hR hn
  obtain ⟨W, A, t, v, ht, s, b⟩ := hR.1.get
  unfold qX3_shaft
  refine s3_within (fun c1 c2 => y1 ?_) (fun c => y0 ?_)
  · rintro _ rfl _ rfl
    unfold qX4_shaft
    refine in_t (lo := 1) (hi := 20) rfl rfl c1 c2 (puts_t (k := 34) rfl (by decide) ?_)
    obtain ⟨m, h1, h2, rfl⟩ := rng_of 1 20 c1 c2 (by decide) (by decide)
    refine ⟨s.1.symm, fr_c hR (Fc.rf.up0 _ _) (Fm.rf.up (by omega) (by omega) _) ⟨W, A, t, ?_, ht, ?_, ?_⟩⟩
    · rw [rg_up0 _ _ _ _ rfl]; exact v.ms h1 h2
    · rw [rg_up0 _ _ _ _ rfl]; exact s.ms v.2.1 v.2.2.2.1 _
    · rw [rg_up0 _ _ _ _ rfl]; exact (b.mono (by omega)).fr rfl rfl
  · unfold qX4_shaft
    exact in_f (lo := 1) (hi := 20) rfl rfl c (puts_f ⟨rfl, fr_0 hR⟩)
theorem h_cut : fp_cut fw_Rel := by
  intro n σ τ a1 hR hn
  obtain ⟨W, A, t, v, ht, s, b⟩ := hR.1.get
  have hw := s.w v
  have hw3 : σ 1 2 = nI W := v.1
  have hW := v.2.1
  unfold qX3_cut
  rw [hw3]
  refine s3_within (fun c1 c2 => y1 ?_) (fun c => y0 ?_)
  · rintro _ rfl _ rfl
    unfold qX4_cut
    rw [tl16, hw]
    refine ⟨vl16_234, in_t (lo := 0) (hi := nI W) rfl rfl c1 c2 (puts_t (k := 16) rfl (by decide) ?_)⟩
    obtain ⟨m, -, h2, rfl⟩ := rng_of 0 W c1 c2 (by omega) (by decide)
    rw [Int32.sub_zero, Int32.add_zero, hw, hw3]
    refine ⟨rfl, fr_c hR (Fc.rf.up0 _ _) (Fm.rf.up (by omega) (by omega) _) ⟨m, A, t, ?_, ht, ?_, ?_⟩⟩
    · rw [rg_up0 _ _ _ _ rfl]; exact v.setW m (by omega) (fun i h1 h2 => by omega)
    · rw [rg_up0 _ _ _ _ rfl]; exact s.setW v.2.2.2.1 m (by omega) _ (fun i h1 h2 => by omega)
    · rw [rg_up0 _ _ _ _ rfl]; exact ((b.mono (by omega)).le h2).fr rfl rfl
  · unfold qX4_cut
    rw [tl16, hw]
    exact ⟨vl16_234, in_f (lo := 0) (hi := nI W) rfl rfl c (puts_f ⟨rfl, fr_0 hR⟩)⟩
theorem h_drop : fp_drop fw_Rel := by
  intro n σ τ a1 hR hn
  obtain ⟨W, A, t, v, ht, s, b⟩ := hR.1.get
  have hw := s.a v
  have hw3 : σ 1 7 = nI A := v.2.2.1
  have hA := v.2.2.2.1
  unfold qX3_drop
  rw [hw3]
  refine s3_within (fun c1 c2 => y1 ?_) (fun c => y0 ?_)
  · rintro _ rfl _ rfl
    unfold qX4_drop
    rw [tl33, hw]
    refine ⟨vl33_234, in_t (lo := 0) (hi := nI A) rfl rfl c1 c2 (puts_t (k := 33) rfl (by decide) ?_)⟩
    obtain ⟨m, -, h2, rfl⟩ := rng_of 0 A c1 c2 (by omega) (by decide)
    rw [Int32.sub_zero, Int32.add_zero, hw, hw3]
    refine ⟨rfl, fr_c hR (Fc.rf.up0 _ _) (Fm.rf.up (by omega) (by omega) _) ⟨W, m, t, ?_, ht, ?_, ?_⟩⟩
    · rw [rg_up0 _ _ _ _ rfl]; exact v.setA m (by omega) (fun i h1 h2 => by omega)
    · rw [rg_up0 _ _ _ _ rfl]; exact s.setA v.2.1 m (by omega) _ (fun i h1 h2 => by omega)
    · rw [rg_up0 _ _ _ _ rfl]; exact (b.mono (by omega)).fr rfl rfl
  · unfold qX4_drop
    rw [tl33, hw]
    exact ⟨vl33_234, in_f (lo := 0) (hi := nI A) rfl rfl c (puts_f ⟨rfl, fr_0 hR⟩)⟩
theorem h_set : fp_set fw_Rel := by
  intro n σ τ a1 a2 hR hn
  obtain ⟨W, A, t, v, ht, s, b⟩ := hR.1.get
  have hw := s.a v
  have hw3 : σ 1 7 = nI A := v.2.2.1
  have hA := v.2.2.2.1
  unfold qX3_set qX3_set_B22
  refine s0_hasAct (fun c1 c2 => z1 ?_) (fun c => z0 ?_)
  · rw [hw3] at c2
    refine s3_within (fun c3 c4 => y1 ?_) (fun c => y0 ?_)
    · obtain ⟨w, hw2, rfl⟩ := idx_of c1 c2 (by omega)
      unfold qX3_replace
      rw [tn_nI (by omega)]
      refine ⟨in_nI (by omega) (by decide), ?_⟩
      rintro _ rfl _ rfl
      unfold qX4_set
      refine isAct_t hw hA c1 c2 (z1 (in_t (lo := 0) (hi := 203) rfl rfl c3 c4 (z1 ?_)))
      unfold qX4_set_B26
      obtain ⟨x, -, h2, rfl⟩ := rng_of 0 203 c3 c4 (by decide) (by decide)
      refine puts_t (k := 0 + 17 + w) (by rw [jx17, Nat.zero_add]) (by omega) ?_
      rw [Int32.sub_zero, Int32.add_zero]
      refine ⟨?_, fr_c hR (Fc.rf.up (b := 1) (j := 5) (by decide) _ _) (Fm.rf.up (by omega) (by omega) _) ⟨W, A, t, ?_, ht, ?_, ?_⟩⟩
      · rw [s.2.2.2.2.2.2.2.2 w hw2, rg_p (by omega)]
      · rw [rg_up 1 σ 5 _ _ (rgk_p (by omega))]; exact v.p h2
      · rw [rg_up 1 σ 5 _ _ (rgk_p (by omega))]; exact s.act v.2.1 hA (by omega) _
      · rw [rg_up 1 σ 5 _ _ (rgk_p (by omega))]; exact (b.mono (by omega)).fr rfl rfl
    · unfold qX4_set qX4_set_B25 qX4_set_B26
      exact isAct_t hw hA c1 c2 (z1 (in_f (lo := 0) (hi := 203) rfl rfl c (z0 (puts_f ⟨rfl, fr_0 hR⟩))))
  · rw [hw3] at c
    unfold qX4_set qX4_set_B25 qX4_set_B26
    exact isAct_f hw hA c (z0 (puts_f ⟨rfl, fr_0 hR⟩))
theorem h_act : fp_act fw_Rel := by
  intro n σ τ a1 hR hn
  obtain ⟨W, A, t, v, ht, s, b⟩ := hR.1.get
  have hw := s.a v
  have hw3 : σ 1 7 = nI A := v.2.2.1
  have hA := v.2.2.2.1
  unfold qX3_act qX3_act_B24
  refine s0_hasAct (fun c1 c2 => z1 ?_) (fun c => z0 ?_)
  · rw [hw3] at c2
    have c1' := c1
    have c2' := c2
    obtain ⟨w, hw2, rfl⟩ := idx_of c1 c2 (by omega)
    rw [tn_nI (by omega)]
    refine ⟨in_nI (by omega) (by decide), ?_⟩
    unfold qX4_act qX4_act_B21
    refine isAct_t hw hA c1' c2' (z1 ?_)
    rw [jx17, tn_nI (by omega)]
    refine ⟨in_nI (by omega) (by decide), ?_, fr_0 hR⟩
    have := s.2.2.2.2.2.2.2.2 w hw2
    rw [Nat.zero_add, rg_p (by omega)] at this
    exact this.symm
  · rw [hw3] at c
    unfold qX4_act qX4_act_B21
    exact isAct_f hw hA c (z0 ⟨rfl, fr_0 hR⟩)
theorem s0_appendAct {b : Nat} {x : Int32} {A : Nat} {σ : Mem} {post : Int32 → Mem → Prop} (hA : σ b 7 = nI A) (hle : A ≤ 16) (h1 : A < 16 → post (nI (A + 1)) (up2 (up2 σ (b + 5) A x) b 7 (nI (A + 1)))) (h0 : A = 16 → post (-3) σ) : qX0_appendAct b x σ post := by
  unfold qX0_appendAct
  rw [hA, show (16 : Int32) = nI 16 from rfl, nI_lt_iff (by omega) (by omega), tn_nI (by omega)]
  refine ⟨fun c => ⟨in_nI c (by decide), ?_⟩, fun c => h0 (by omega)⟩
  rintro _ rfl
  rw [rd_cj (by omega), hA, nI_1]
  rintro _ rfl
  rw [rd_eq]
  exact h1 c
/-- an act put at the end of the plan, both sides -/
theorem s3_addAct {x : Int32} {A : Nat} {σ : Mem} {post : Int32 → Mem → Prop} (hA : σ 1 7 = nI A) (hle : A ≤ 16) (h1 : ¬ x < 0 → ¬ 203 < x → A < 16 → post (nI (A + 1)) (up2 (up2 σ 6 A x) 1 7 (nI (A + 1)))) (h3 : ¬ x < 0 → ¬ 203 < x → A = 16 → post (-3) σ) (h0 : (x < 0 ∨ 203 < x) → post (-1) σ) : qX3_addAct x σ post := by
  unfold qX3_addAct qX3_addAct_B23
  exact s3_within (fun c1 c2 => z1 (s0_appendAct hA hle (fun c => h1 c1 c2 c) (fun c => h3 c1 c2 c))) (fun c => z0 (h0 c))
theorem s4_adds {x : Int32} {A : Nat} {τ : Mem} {post : Int32 → Mem → Prop} (hA : τ 1 33 = nI A) (hle : A ≤ 16) (h1 : ¬ x < 0 → ¬ 203 < x → A < 16 → post (nI (A + 1)) (up2 (up2 τ 1 (17 + A) x) 1 33 (nI (A + 1)))) (h3 : ¬ x < 0 → ¬ 203 < x → A = 16 → post (-3) τ) (h0 : (x < 0 ∨ 203 < x) → post (-1) τ) : qX4_adds x τ post := by
  unfold qX4_adds
  refine s4_in (lo := 0) (hi := 203) rfl rfl (fun c1 c2 => y1 ?_) (fun c => y0 (h0 c))
  rw [tl33, hA, show (16 : Int32) = nI 16 from rfl, nI_eq_iff (by omega) (by omega), jx17, tn_nI (by omega)]
  refine ⟨vl33_234, fun c => ⟨in_nI (by omega) (by decide), ?_⟩, fun c => h3 c1 c2 c⟩
  rintro _ rfl
  rw [rd_ne (by omega), hA, nI_1]
  rintro _ rfl
  rw [rd_eq]
  exact h1 c1 c2 (by omega)
theorem add_R1 {W A t x S : Nat} {ρ τ : Mem} (v : Vd W A t ρ) (s : Sm 0 W A τ ρ 0 0) (b : Bd W S ρ) (hA : A < 16) (hx : x ≤ 203) : Vd W (A + 1) t (up2 (up2 ρ 5 A (nI x)) 0 7 (nI (A + 1))) ∧ Sm 0 W (A + 1) (up2 (up2 τ 1 (17 + A) (nI x)) 1 33 (nI (A + 1))) (up2 (up2 ρ 5 A (nI x)) 0 7 (nI (A + 1))) 0 0 ∧ Bd W S (up2 (up2 ρ 5 A (nI x)) 0 7 (nI (A + 1))) := by
  refine ⟨(v.p hx).setA (A + 1) (by omega) (fun i h1 h2 => ?_), ?_, b.fr rfl rfl⟩
  · have : i = A := by omega
    subst this
    exact ⟨x, rd_eq _ _ _ _, hx⟩
  · have := s.act v.2.1 v.2.2.2.1 (w := A) (by omega) (nI x)
    rw [Nat.zero_add] at this
    refine this.setA v.2.1 (A + 1) (by omega) _ (fun i h1 h2 => ?_)
    have : i = A := by omega
    subst this
    rw [Nat.zero_add, rd_eq, rd_eq]
theorem h_add : fp_add fw_Rel := by
  intro n σ τ a1 hR hn
  obtain ⟨W, A, t, v, ht, s, b⟩ := hR.1.get
  have hw := s.a v
  have hw3 : σ 1 7 = nI A := v.2.2.1
  have hA := v.2.2.2.1
  unfold qX3_add
  refine s3_addAct hw3 hA (fun c1 c2 c => ?_) (fun c1 c2 c => ?_) (fun c => ?_)
  · unfold qX4_add
    refine s4_adds hw hA (fun _ _ _ => ?_) (fun _ _ z => by omega) (fun z => ?_)
    · obtain ⟨x, -, hx, rfl⟩ := rng_of 0 203 c1 c2 (by decide) (by decide)
      obtain ⟨g1, g2, g3⟩ := add_R1 v s b c hx
      have e : rg 1 (up2 (up2 σ 6 A (nI x)) 1 7 (nI (A + 1))) = up2 (up2 (rg 1 σ) 5 A (nI x)) 0 7 (nI (A + 1)) := by
        rw [rg_up0 _ _ _ _ rfl, rg_up 1 σ 5 _ _ (rgk_p (by omega))]
      exact ⟨rfl, fr_c hR ((Fc.rf.up (b := 1) (j := 5) (by decide) _ _).up0 _ _) ((Fm.rf.up (by omega) (by omega) _).up (by omega) (by omega) _) ⟨W, A + 1, t, by rw [e]; exact g1, ht, by rw [e]; exact g2, by rw [e]; exact g3.mono (by omega)⟩⟩
    · rcases z with z | z
      · exact absurd z c1
      · exact absurd z c2
  · unfold qX4_add
    exact s4_adds hw hA (fun _ _ z => by omega) (fun _ _ _ => ⟨rfl, fr_0 hR⟩) (fun z => by rcases z with z | z; exact absurd z c1; exact absurd z c2)
  · unfold qX4_add
    exact s4_adds hw hA (fun c1 c2 _ => by rcases c with z | z; exact absurd z c1; exact absurd z c2) (fun c1 c2 _ => by rcases c with z | z; exact absurd z c1; exact absurd z c2) (fun _ => ⟨rfl, fr_0 hR⟩)
theorem s0_appendWheel {b : Nat} {k m l : Int32} {W : Nat} {σ : Mem} {post : Int32 → Mem → Prop} (hW : σ b 2 = nI W) (hle : W ≤ 4) (h1 : W < 4 → post (nI (W + 1)) (up2 (up2 (up2 (up2 (up2 σ (b + 1) W k) (b + 2) W m) (b + 3) W l) (b + 4) W 0) b 2 (nI (W + 1)))) (h0 : W = 4 → post (-3) σ) : qX0_appendWheel b k m l σ post := by
  unfold qX0_appendWheel
  rw [hW, show (4 : Int32) = nI 4 from rfl, nI_lt_iff (by omega) (by omega), tn_nI (by omega)]
  refine ⟨fun c => ⟨in_nI c (by decide), ?_⟩, fun c => h0 (by omega)⟩
  rintro _ rfl
  rw [rd_cj (by omega), hW, tn_nI (by omega)]
  refine ⟨in_nI c (by decide), ?_⟩
  rintro _ rfl
  rw [rd_cj (by omega), rd_cj (by omega), hW, tn_nI (by omega)]
  refine ⟨in_nI c (by decide), ?_⟩
  rintro _ rfl
  rw [rd_cj (by omega), rd_cj (by omega), rd_cj (by omega), hW, tn_nI (by omega)]
  refine ⟨in_nI c (by decide), ?_⟩
  rintro _ rfl
  rw [rd_cj (by omega), rd_cj (by omega), rd_cj (by omega), rd_cj (by omega), hW, nI_1]
  rintro _ rfl
  rw [rd_eq]
  exact h1 c
theorem put_rg {b W : Nat} {σ : Mem} (hW : W < 4) (k m l x : Int32) : rg b (up2 (up2 (up2 (up2 (up2 σ (b + 1) W k) (b + 2) W m) (b + 3) W l) (b + 4) W 0) b 2 x) = up2 (up2 (up2 (up2 (up2 (rg b σ) 1 W k) 2 W m) 3 W l) 4 W 0) 0 2 x := by
  rw [rg_up0 _ _ _ _ rfl, rg_up b _ 4 _ _ (rgk_a (by decide) (by decide) hW), rg_up b _ 3 _ _ (rgk_a (by decide) (by decide) hW), rg_up b _ 2 _ _ (rgk_a (by decide) (by decide) hW), rg_up b _ 1 _ _ (rgk_a (by decide) (by decide) hW)]
theorem put_R1 {W A t k m l S : Nat} {ρ τ : Mem} (v : Vd W A t ρ) (s : Sm 0 W A τ ρ 0 0) (b : Bd W S ρ) (hW : W < 4) (hk : k ≤ 3) (m1 : 1 ≤ m) (m2 : m ≤ 20) (hl : l ≤ 9) : Vd (W + 1) A t (up2 (up2 (up2 (up2 (up2 ρ 1 W (nI k)) 2 W (nI m)) 3 W (nI l)) 4 W 0) 0 2 (nI (W + 1))) ∧ Sm 0 (W + 1) A (up2 (up2 (up2 (up2 (up2 τ 1 W (nI k)) 1 (4 + W) (nI m)) 1 (8 + W) (nI l)) 1 (12 + W) 0) 1 16 (nI (W + 1))) (up2 (up2 (up2 (up2 (up2 ρ 1 W (nI k)) 2 W (nI m)) 3 W (nI l)) 4 W 0) 0 2 (nI (W + 1))) 0 0 ∧ Bd (W + 1) S (up2 (up2 (up2 (up2 (up2 ρ 1 W (nI k)) 2 W (nI m)) 3 W (nI l)) 4 W 0) 0 2 (nI (W + 1))) := by
  have hA := v.2.2.2.1
  refine ⟨((((v.k hk).m m1 m2).l hl).st (St.up4 _ W 0)).setW (W + 1) (by omega) (fun i h1 h2 => ?_), ?_, ?_⟩
  · have : i = W := by omega
    subst this
    refine ⟨⟨k, ?_, hk⟩, ⟨m, ?_, m1, m2⟩, ⟨l, ?_, hl⟩⟩
    · rw [rd_cj (by decide), rd_cj (by decide), rd_cj (by decide), rd_eq]
    · rw [rd_cj (by decide), rd_cj (by decide), rd_eq]
    · rw [rd_cj (by decide), rd_eq]
  · have s1 := s.arr v.2.1 hA (j := 0) (w := W) (by omega) (by omega) (nI k)
    have s2 := s1.arr v.2.1 hA (j := 1) (w := W) (by omega) (by omega) (nI m)
    have s3 := s2.arr v.2.1 hA (j := 2) (w := W) (by omega) (by omega) (nI l)
    have s4 := s3.arr v.2.1 hA (j := 3) (w := W) (by omega) (by omega) 0
    have e0 : 0 + 4 * 0 + W = W := by omega
    have e1 : 0 + 4 * 1 + W = 4 + W := by omega
    have e2 : 0 + 4 * 2 + W = 8 + W := by omega
    have e3 : 0 + 4 * 3 + W = 12 + W := by omega
    rw [e0, e1, e2, e3] at s4
    refine s4.setW hA (W + 1) (by omega) _ (fun i h1 h2 => ?_)
    have : i = W := by omega
    subst this
    simp only [Nat.zero_add]
    refine ⟨?_, ?_, ?_, ?_⟩
    · rw [rd_ne (by omega), rd_ne (by omega), rd_ne (by omega), rd_eq, rd_cj (by decide), rd_cj (by decide), rd_cj (by decide), rd_eq]
    · rw [rd_ne (by omega), rd_ne (by omega), rd_eq, rd_cj (by decide), rd_cj (by decide), rd_eq]
    · rw [rd_ne (by omega), rd_eq, rd_cj (by decide), rd_eq]
    · rw [rd_eq]; exact (rd_eq _ _ _ _).symm
  · have b1 : Bd W S (up2 (up2 (up2 (up2 (up2 ρ 1 W (nI k)) 2 W (nI m)) 3 W (nI l)) 4 W 0) 0 2 (nI (W + 1))) := by
      have := (b.fr (ρ' := up2 (up2 (up2 ρ 1 W (nI k)) 2 W (nI m)) 3 W (nI l)) rfl rfl).sw (w := W) (x := 0)
      rw [nI_0, Nat.add_zero] at this
      exact this.fr rfl rfl
    exact b1.grow (by rw [rd_cj (by decide), rd_eq])
theorem h_put : fp_put fw_Rel := by
  intro n σ τ a1 a2 a3 hR hn
  obtain ⟨W, A, t, v, ht, s, b⟩ := hR.1.get
  have hw := s.w v
  have hw3 : σ 1 2 = nI W := v.1
  have hW := v.2.1
  unfold qX3_put qX3_put_B29
  refine s3_within (fun c1 c2 => z1 ?_) (fun c => z0 ?_)
  · refine s3_within (fun c3 c4 => z1 ?_) (fun c => z0 ?_)
    · refine s3_within (fun c5 c6 => y1 ?_) (fun c => y0 ?_)
      · refine s0_appendWheel hw3 hW (fun c => ?_) (fun c => ?_)
        · unfold qX4_put
          refine in_t (lo := 0) (hi := 3) rfl rfl c1 c2 (z1 (in_t (lo := 1) (hi := 20) rfl rfl c3 c4 (z1 (in_t (lo := 0) (hi := 9) rfl rfl c5 c6 (y1 ?_)))))
          rw [tl16, hw]
          refine ⟨vl16_234, ?_⟩
          rintro _ rfl
          rw [show (4 : Int32) = nI 4 from rfl, nI_eq_iff (by omega) (by omega)]
          refine ⟨fun _ => ?_, fun z => by omega⟩
          rw [nI_add, jx8, jx12, tn_nI (by omega), tn_nI (by omega), tn_nI (by omega), tn_nI (by omega)]
          refine ⟨in_nI (by omega) (by decide), ?_⟩
          rintro _ rfl
          refine ⟨in_nI (by omega) (by decide), ?_⟩
          rintro _ rfl
          refine ⟨in_nI (by omega) (by decide), ?_⟩
          rintro _ rfl
          refine ⟨in_nI (by omega) (by decide), ?_⟩
          rintro _ rfl
          rw [rd_ne (by omega), rd_ne (by omega), rd_ne (by omega), rd_ne (by omega), hw, nI_1]
          rintro _ rfl
          rw [rd_eq]
          obtain ⟨k, -, hk, rfl⟩ := rng_of 0 3 c1 c2 (by decide) (by decide)
          obtain ⟨m, m1, m2, rfl⟩ := rng_of 1 20 c3 c4 (by decide) (by decide)
          obtain ⟨l, -, hl, rfl⟩ := rng_of 0 9 c5 c6 (by decide) (by decide)
          obtain ⟨g1, g2, g3⟩ := put_R1 v s b c hk m1 m2 hl
          have e := put_rg (b := 1) (σ := σ) c (nI k) (nI m) (nI l) (nI (W + 1))
          refine ⟨rfl, fr_c hR (((((Fc.rf.up (b := 1) (j := 1) (by decide) _ _).up (j := 2) (by decide) _ _).up (j := 3) (by decide) _ _).up (j := 4) (by decide) _ _).up0 _ _) (((((Fm.rf.up (by omega) (by omega) _).up (by omega) (by omega) _).up (by omega) (by omega) _).up (by omega) (by omega) _).up (by omega) (by omega) _) ⟨W + 1, A, t, ?_, ht, ?_, ?_⟩⟩
          · rw [e]; exact g1
          · rw [e]; exact g2
          · rw [e]; exact g3.mono (by omega)
        · unfold qX4_put
          refine in_t (lo := 0) (hi := 3) rfl rfl c1 c2 (z1 (in_t (lo := 1) (hi := 20) rfl rfl c3 c4 (z1 (in_t (lo := 0) (hi := 9) rfl rfl c5 c6 (y1 ?_)))))
          rw [tl16, hw, c]
          refine ⟨vl16_234, ?_⟩
          rintro _ rfl
          exact ⟨fun z => absurd rfl z, fun _ => ⟨rfl, fr_0 hR⟩⟩
      · unfold qX4_put qX4_put_B36
        exact in_t (lo := 0) (hi := 3) rfl rfl c1 c2 (z1 (in_t (lo := 1) (hi := 20) rfl rfl c3 c4 (z1 (in_f (lo := 0) (hi := 9) rfl rfl c (y0 ⟨rfl, fr_0 hR⟩)))))
    · unfold qX4_put qX4_put_B36
      exact in_t (lo := 0) (hi := 3) rfl rfl c1 c2 (z1 (in_f (lo := 1) (hi := 20) rfl rfl c (z0 ⟨rfl, fr_0 hR⟩)))
  · unfold qX4_put qX4_put_B36
    exact in_f (lo := 0) (hi := 3) rfl rfl c (z0 ⟨rfl, fr_0 hR⟩)
