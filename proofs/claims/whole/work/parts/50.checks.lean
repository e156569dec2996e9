/-! PURE, 21: tokens taken, numbers checked -/
def nx (b : Nat → Int32) (T : Nat) (x : PS) : PS := if x.1 = 0 then tok4 b T x.2.2.1 else x
def wr (c : Nat) (x : PS) : PS := (c, x.2)
def ck (lo hi : Int32) (x : PS) : PS := if x.1 = 0 then (if x.2.2.2.1 = 2 then (if x.2.2.2.2 < lo ∨ hi < x.2.2.2.2 then wr 3 x else x) else wr 2 x) else x
def cq (x : PS) : PS := if x.1 = 0 then (if x.2.2.2.1 = 3 then x else wr 2 x) else x
def okx (T : Nat) (x : PS) : Prop := x.1 ≤ 5 ∧ x.2.1 ≤ T ∧ (x.1 = 0 → x.2.1 ≤ x.2.2.1 ∧ x.2.2.1 ≤ T ∧ x.2.2.2.1 ≤ 3 ∧ (¬ x.2.2.2.1 = 0 → x.2.1 < x.2.2.1))
theorem tok4_ok (b : Nat → Int32) {T a : Nat} (haT : a ≤ T) (hT : T ≤ 160) : okx T (tok4 b T a) ∧ a ≤ (tok4 b T a).2.1 := by
  have hsT := sp_le (b := b) haT
  have hge := skp_ge (qS b T) 161 a
  unfold tok4
  generalize skp (qS b T) 161 a = s at *
  simp only []
  by_cases c : s < T
  · rw [if_pos c]
    by_cases d : letB (b s) = true
    · rw [if_pos d]
      have hle := let_le (b := b) (T := T) (a := s) hsT
      have hge2 := skp_ge (qL b T) 161 s
      have hst2 := skp_stop (qL b T) (T := T) (fun i hi => (qL_t.mp hi).1) 161 s (by omega)
      have hne : ¬ skp (qL b T) 161 s = s := fun z => by rw [z] at hst2; exact hst2 (qL_t.mpr ⟨c, d⟩)
      exact ⟨⟨by show 0 ≤ 5; omega, hsT, fun _ => ⟨hge2.1, hle, by show 1 ≤ 3; omega, fun _ => by show s < skp (qL b T) 161 s; omega⟩⟩, hge.1⟩
    · rw [if_neg d]
      by_cases g : digB (b s) = true
      · rw [if_pos g]
        have hle := dig_le (b := b) (T := T) (a := s) hsT
        have hge2 := skp_ge (qD b T) 161 s
        have hst2 := skp_stop (qD b T) (T := T) (fun i hi => (qD_t.mp hi).1) 161 s (by omega)
        have hne : ¬ skp (qD b T) 161 s = s := fun z => by rw [z] at hst2; exact hst2 (qD_t.mpr ⟨c, g⟩)
        by_cases q : skp (qD b T) 161 s ≤ s + 2
        · rw [if_pos q]
          exact ⟨⟨by show 0 ≤ 5; omega, hsT, fun _ => ⟨hge2.1, hle, by show 2 ≤ 3; omega, fun _ => by show s < skp (qD b T) 161 s; omega⟩⟩, hge.1⟩
        · rw [if_neg q]
          exact ⟨⟨by show 1 ≤ 5; omega, hsT, fun z => nomatch z⟩, hge.1⟩
      · rw [if_neg g]
        by_cases q : b s = 59
        · rw [if_pos q]
          exact ⟨⟨by show 0 ≤ 5; omega, hsT, fun _ => ⟨by show s ≤ s + 1; omega, by show s + 1 ≤ T; omega, by show 3 ≤ 3; omega, fun _ => by show s < s + 1; omega⟩⟩, hge.1⟩
        · rw [if_neg q]
          exact ⟨⟨by show 1 ≤ 5; omega, hsT, fun z => nomatch z⟩, hge.1⟩
  · rw [if_neg c]
    exact ⟨⟨by show 0 ≤ 5; omega, hsT, fun _ => ⟨by show s ≤ s; omega, hsT, by show 0 ≤ 3; omega, fun z => absurd rfl z⟩⟩, hge.1⟩
theorem nx_ok {b : Nat → Int32} {T : Nat} {x : PS} (hT : T ≤ 160) (h : okx T x) : okx T (nx b T x) := by
  unfold nx
  by_cases c : x.1 = 0
  · rw [if_pos c]; exact (tok4_ok b (h.2.2 c).2.1 hT).1
  · rw [if_neg c]; exact h
theorem wr_ok {T c : Nat} {x : PS} (h : okx T x) (h1 : 1 ≤ c) (h5 : c ≤ 5) : okx T (wr c x) := ⟨h5, h.2.1, fun z => by have : c = 0 := z; omega⟩
theorem ck_ok {T : Nat} {lo hi : Int32} {x : PS} (h : okx T x) : okx T (ck lo hi x) := by
  unfold ck
  split
  · split
    · split
      · exact wr_ok h (by decide) (by decide)
      · exact h
    · exact wr_ok h (by decide) (by decide)
  · exact h
theorem cq_ok {T : Nat} {x : PS} (h : okx T x) : okx T (cq x) := by
  unfold cq
  split
  · split
    · exact h
    · exact wr_ok h (by decide) (by decide)
  · exact h
theorem nx_0 {b : Nat → Int32} {T : Nat} {x : PS} (h : (nx b T x).1 = 0) : x.1 = 0 ∧ nx b T x = tok4 b T x.2.2.1 := by
  unfold nx at h ⊢
  by_cases c : x.1 = 0
  · exact ⟨c, if_pos c⟩
  · rw [if_neg c] at h; exact absurd h c
theorem ck_0 {lo hi : Int32} {x : PS} (h : (ck lo hi x).1 = 0) : x.1 = 0 ∧ x.2.2.2.1 = 2 ∧ ¬ x.2.2.2.2 < lo ∧ ¬ hi < x.2.2.2.2 ∧ ck lo hi x = x := by
  unfold ck at h ⊢
  by_cases c : x.1 = 0
  · rw [if_pos c] at h ⊢
    by_cases d : x.2.2.2.1 = 2
    · rw [if_pos d] at h ⊢
      by_cases g : x.2.2.2.2 < lo ∨ hi < x.2.2.2.2
      · rw [if_pos g] at h; exact absurd h (by show ¬ (3 : Nat) = 0; decide)
      · rw [if_neg g]
        exact ⟨c, d, fun z => g (Or.inl z), fun z => g (Or.inr z), rfl⟩
    · rw [if_neg d] at h; exact absurd h (by show ¬ (2 : Nat) = 0; decide)
  · rw [if_neg c] at h; exact absurd h c
theorem cq_0 {x : PS} (h : (cq x).1 = 0) : x.1 = 0 ∧ x.2.2.2.1 = 3 ∧ cq x = x := by
  unfold cq at h ⊢
  by_cases c : x.1 = 0
  · rw [if_pos c] at h ⊢
    by_cases d : x.2.2.2.1 = 3
    · rw [if_pos d]; exact ⟨c, d, rfl⟩
    · rw [if_neg d] at h; exact absurd h (by show ¬ (2 : Nat) = 0; decide)
  · rw [if_neg c] at h; exact absurd h c
/-- reading on goes on -/
theorem nx_lt {b : Nat → Int32} {T : Nat} {x : PS} (hT : T ≤ 160) (h : okx T x) (h0 : (nx b T x).1 = 0) : x.2.2.1 ≤ (nx b T x).2.2.1 ∧ (¬ (nx b T x).2.2.2.1 = 0 → x.2.2.1 < (nx b T x).2.2.1) := by
  obtain ⟨c, e⟩ := nx_0 h0
  have hk := tok4_ok b (h.2.2 c).2.1 hT
  rw [e] at h0 ⊢
  have h2 := hk.1.2.2 h0
  refine ⟨by omega, fun z => ?_⟩
  have := h2.2.2.2 z
  omega
def Fk (σ σ' : Mem) : Prop := (∀ c, c ≠ 33 → σ' c = σ c) ∧ σ' 33 1 = σ 33 1 ∧ σ' 33 7 = σ 33 7
theorem Fk.rf {σ : Mem} : Fk σ σ := ⟨fun _ _ => rfl, rfl, rfl⟩
theorem Fk.tr {a b c : Mem} (h : Fk a b) (g : Fk b c) : Fk a c := ⟨fun k hk => (g.1 k hk).trans (h.1 k hk), g.2.1.trans h.2.1, g.2.2.trans h.2.2⟩
theorem CS.wr {σ : Mem} {x : PS} {c : Nat} (h : CS σ x) (h1 : 1 ≤ c) : CS (up2 σ 33 2 (nI c)) (wr c x) := ⟨rd_eq _ _ _ _, by rw [rd_ne (by decide)]; exact h.2.1, fun z => by have : c = 0 := z; omega⟩
theorem Fk.up2 {σ σ' : Mem} (h : Fk σ σ') (x : Int32) : Fk σ (up2 σ' 33 2 x) := ⟨fun c hc => by rw [rd_c hc]; exact h.1 c hc, by rw [rd_ne (by decide)]; exact h.2.1, by rw [rd_ne (by decide)]; exact h.2.2⟩
theorem CS.w0 {T : Nat} {σ : Mem} {x : PS} (h : CS σ x) (ok : okx T x) : σ 33 2 = 0 ↔ x.1 = 0 := by
  rw [h.1]
  have := ok.1
  exact nI_eq_iff (b := 0) (by omega) (by decide)
theorem s2_nextToken {b : Nat → Int32} {T : Nat} {x : PS} {σ : Mem} {post : Mem → Prop} (hT : σ 33 1 = nI T) (hT160 : T ≤ 160) (hb : σ 34 = b) (hC : CS σ x) (ok : okx T x) (h : ∀ σ', Fk σ σ' → CS σ' (nx b T x) → post σ') : qX2_nextToken σ post := by
  have hw := hC.w0 ok
  unfold nx at h
  by_cases c : x.1 = 0
  · rw [if_pos c] at h
    obtain ⟨e3, e4, e6⟩ := hC.2.2 c
    refine s2_nextToken0 hT hT160 (ok.2.2 c).2.1 (hw.mpr c) e3 (fun σ' f1 f2 f3 f4 => h σ' ⟨f1, f2, f3⟩ ?_)
    rw [hb] at f4
    exact f4
  · rw [if_neg c] at h
    unfold qX2_nextToken
    exact cs_f (fun z => c (hw.mp z)) (h σ Fk.rf hC)
theorem s2_numberWithin {b : Nat → Int32} {T : Nat} {x : PS} {lo hi : Int32} {σ : Mem} {post : Int32 → Mem → Prop} (hT : σ 33 1 = nI T) (hT160 : T ≤ 160) (hb : σ 34 = b) (hC : CS σ x) (ok : okx T x) (h : ∀ σ', Fk σ σ' → CS σ' (ck lo hi (nx b T x)) → post (σ' 33 6) σ') : qX2_numberWithin lo hi σ post := by
  unfold qX2_numberWithin
  refine s2_nextToken hT hT160 hb hC ok (fun σ1 f1 c1 => ?_)
  have ok1 := nx_ok (b := b) hT160 ok
  generalize nx b T x = x1 at *
  have hw := c1.w0 ok1
  unfold ck at h
  by_cases c : x1.1 = 0
  · rw [if_pos c] at h
    obtain ⟨e3, e4, e6⟩ := c1.2.2 c
    have hk := (ok1.2.2 c).2.2.1
    refine ds_t (hw.mpr c) ?_
    rw [e4, show (2 : Int32) = nI 2 from rfl, nI_eq_iff (by omega) (by decide)]
    refine ⟨fun d => ?_, fun d => ?_⟩
    · rw [if_pos d] at h
      unfold qX2_numberWithin_B24 qX2_numberWithin_B48
      refine ds_t (hw.mpr c) ?_
      rw [e6 d]
      refine s3_within (fun g1 g2 => y1 ?_) (fun g => y0 ?_)
      · rw [if_neg (by rintro (z | z); exact g1 z; exact g2 z)] at h
        exact h σ1 f1 c1
      · rw [if_pos g] at h
        rintro _ rfl
        exact h _ (f1.up2 _) (c1.wr (c := 3) (by decide))
    · rw [if_neg d] at h
      rintro _ rfl
      unfold qX2_numberWithin_B24 qX2_numberWithin_B48
      refine ds_f (by rw [rd_eq]; decide) ?_
      exact h _ (f1.up2 _) (c1.wr (c := 2) (by decide))
  · rw [if_neg c] at h
    unfold qX2_numberWithin_B24 qX2_numberWithin_B48
    exact ds_f (fun z => c (hw.mp z)) (ds_f (fun z => c (hw.mp z)) (h σ1 f1 c1))
theorem s2_takeStop {b : Nat → Int32} {T : Nat} {x : PS} {σ : Mem} {post : Mem → Prop} (hT : σ 33 1 = nI T) (hT160 : T ≤ 160) (hb : σ 34 = b) (hC : CS σ x) (ok : okx T x) (h : ∀ σ', Fk σ σ' → CS σ' (cq (nx b T x)) → post σ') : qX2_takeStop σ post := by
  unfold qX2_takeStop qX2_takeStop_B24
  refine s2_nextToken hT hT160 hb hC ok (fun σ1 f1 c1 => ?_)
  have ok1 := nx_ok (b := b) hT160 ok
  generalize nx b T x = x1 at *
  have hw := c1.w0 ok1
  unfold cq at h
  by_cases c : x1.1 = 0
  · rw [if_pos c] at h
    obtain ⟨e3, e4, e6⟩ := c1.2.2 c
    have hk := (ok1.2.2 c).2.2.1
    refine ds_t (hw.mpr c) ?_
    rw [e4, show (3 : Int32) = nI 3 from rfl, nI_eq_iff (by omega) (by decide)]
    refine ⟨fun d => ?_, fun d => ?_⟩
    · rw [if_pos d] at h; exact h σ1 f1 c1
    · rw [if_neg d] at h
      rintro _ rfl
      exact h _ (f1.up2 _) (c1.wr (c := 2) (by decide))
  · rw [if_neg c] at h
    exact ds_f (fun z => c (hw.mp z)) (h σ1 f1 c1)
theorem MS.w0 {T : Nat} {τ : Mem} {x : PS} (h : MS τ x) (ok : okx T x) : τ 0 6 = 0 ↔ x.1 = 0 := by
  rw [h.1]
  have := ok.1
  exact nI_eq_iff (b := 0) (by omega) (by decide)
theorem MS.wl {T : Nat} {τ : Mem} {x : PS} (h : MS τ x) (ok : okx T x) : τ 0 6 ≤ 0 ↔ x.1 = 0 := by
  rw [h.1]
  have := ok.1
  rw [show (0 : Int32) = nI 0 from rfl, nI_le_iff (by omega) (by decide)]
  omega
theorem s4_readsOn {b : Nat → Int32} {T : Nat} {x : PS} {τ : Mem} {post : Mem → Prop} (ht : tapeM b T τ) (hM : MS τ x) (ok : okx T x) (h : ∀ τ', Ft τ τ' → MS τ' (nx b T x) → post τ') : qX4_readsOn τ post := by
  have hw := hM.w0 ok
  unfold nx at h
  by_cases c : x.1 = 0
  · rw [if_pos c] at h
    obtain ⟨e9, e8, -⟩ := hM.2.1 c
    exact s4_readsOn0 ht (ok.2.2 c).2.1 (hw.mpr c) e8 h
  · rw [if_neg c] at h
    unfold qX4_readsOn
    have hl := hM.wl ok
    exact ⟨fun z => absurd (hl.mp z) c, fun _ => h τ Ft.rf hM⟩
/-- a fault noted -/
theorem s4_fails {T c : Nat} {x : PS} {τ : Mem} {post : Mem → Prop} (hM : MS τ x) (ok : okx T x) (h0 : x.1 = 0) (h1 : 1 ≤ c) (h : ∀ τ', Ft τ τ' → MS τ' (wr c x) → post τ') : qX4_fails (nI c) τ post := by
  obtain ⟨e9, e8, -⟩ := hM.2.1 h0
  refine s4_fails0 ((hM.w0 ok).mpr h0) (h _ ((Ft.rf.up (by decide) (by decide) _).up (by decide) (by decide) _) ⟨?_, fun z => ?_, fun _ => ?_⟩)
  · rw [rd_ne (by decide), rd_eq]; rfl
  · have : c = 0 := z
    omega
  · rw [rd_eq]; exact e9
theorem s4_number {b : Nat → Int32} {T : Nat} {x : PS} {lo hi : Int32} {τ : Mem} {post : Int32 → Mem → Prop} (ht : tapeM b T τ) (hM : MS τ x) (ok : okx T x) (h : ∀ r τ', Ft τ τ' → MS τ' (nx b T (ck lo hi x)) → ((ck lo hi x).1 = 0 → r = x.2.2.2.2) → post r τ') : qX4_number lo hi τ post := by
  have hw := hM.w0 ok
  have b47 : ∀ (τ' : Mem) (x' : PS), Ft τ τ' → MS τ' x' → okx T x' → (ck lo hi x) = x' → (x'.1 = 0 → τ' 0 11 = x.2.2.2.2) → qX4_number_B47 lo hi post τ' := by
    intro τ' x' f m o e k
    unfold qX4_number_B47 qX4_number_B62
    have hw' := m.w0 o
    rw [e] at h
    refine ⟨fun z => s4_readsOn (ht.ft f) m o (fun τ2 f2 m2 => h _ τ2 (f.tr f2) m2 (fun y => absurd (hw'.mpr y) z)), fun z => s4_readsOn (ht.ft f) m o (fun τ2 f2 m2 => h _ τ2 (f.tr f2) m2 (fun y => k y))⟩
  unfold qX4_number
  by_cases c : x.1 = 0
  · obtain ⟨e9, e8, e10, e11⟩ := hM.2.1 c
    have hk := (ok.2.2 c).2.2.1
    refine ds_t (hw.mpr c) ?_
    rw [e10, show (2 : Int32) = nI 2 from rfl, nI_eq_iff (by omega) (by decide)]
    refine ⟨fun d => ?_, fun d => ?_⟩
    · unfold qX4_number_B20
      refine ds_t (hw.mpr c) ?_
      rw [e11 d]
      refine s4_in (lo := lo) (hi := hi) rfl rfl (fun g1 g2 => y1 ?_) (fun g => y0 ?_)
      · refine b47 τ x Ft.rf hM ok ?_ (fun _ => e11 d)
        rw [ck, if_pos c, if_pos d, if_neg (by rintro (z | z); exact g1 z; exact g2 z)]
      · refine s4_fails (c := 3) hM ok c (by decide) (fun τ' f m => b47 τ' (wr 3 x) f m (wr_ok ok (by decide) (by decide)) ?_ (fun z => nomatch z))
        rw [ck, if_pos c, if_pos d, if_pos g]
    · refine s4_fails (c := 2) hM ok c (by decide) (fun τ' f m => ?_)
      have o2 := wr_ok ok (c := 2) (by decide) (by decide)
      have hw2 := m.w0 o2
      unfold qX4_number_B20
      refine ds_f (fun z => nomatch (hw2.mp z)) (b47 τ' (wr 2 x) f m o2 ?_ (fun z => nomatch z))
      rw [ck, if_pos c, if_neg d]
  · unfold qX4_number_B20
    refine ds_f (fun z => c (hw.mp z)) (ds_f (fun z => c (hw.mp z)) (b47 τ x Ft.rf hM ok ?_ (fun z => absurd z c)))
    rw [ck, if_neg c]
