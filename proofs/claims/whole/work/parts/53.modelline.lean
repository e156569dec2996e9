/-! PURE, 24: the reference takes a line -/
def vw (τ : Mem) : Mem := setc τ 1 (τ 2)
theorem vw_1 (τ : Mem) : vw τ 1 = τ 2 := rfl
theorem up2_fn (τ : Mem) (c i : Nat) (v : Int32) : up2 τ c i v c = upd (τ c) i v := if_pos rfl
def Fx (τ τ' : Mem) : Prop := (∀ c, c ≠ 0 → c ≠ 2 → τ' c = τ c) ∧ (∀ j, j ≠ 2 → (j < 6 ∨ 12 ≤ j) → τ' 0 j = τ 0 j)
theorem Fx.rf {τ : Mem} : Fx τ τ := ⟨fun _ _ _ => rfl, fun _ _ _ => rfl⟩
theorem Fx.tr {a b c : Mem} (h : Fx a b) (g : Fx b c) : Fx a c := ⟨fun k h0 h2 => (g.1 k h0 h2).trans (h.1 k h0 h2), fun k h0 h1 => (g.2 k h0 h1).trans (h.2 k h0 h1)⟩
theorem Ft.x {τ τ' : Mem} (h : Ft τ τ') : Fx τ τ' := ⟨fun c h0 _ => h.1 c h0, fun j _ hj => h.2 j hj⟩
theorem Fx.u2 {τ τ' : Mem} (h : Fx τ τ') (k : Nat) (x : Int32) : Fx τ (up2 τ' 2 k x) := ⟨fun c h0 h2 => by rw [rd_c h2]; exact h.1 c h0 h2, fun j h2 hj => by rw [rd_cj (by decide)]; exact h.2 j h2 hj⟩
theorem Fx.u02 {τ τ' : Mem} (h : Fx τ τ') (x : Int32) : Fx τ (up2 τ' 0 2 x) := ⟨fun c h0 h2 => by rw [rd_c h0]; exact h.1 c h0 h2, fun j h2 hj => by rw [rd_ne h2]; exact h.2 j h2 hj⟩
theorem tapeM.fx {b : Nat → Int32} {T : Nat} {τ τ' : Mem} (h : tapeM b T τ) (f : Fx τ τ') : tapeM b T τ' := by
  unfold tapeM
  rw [f.2 4 (by decide) (by decide), f.1 3 (by decide) (by decide)]
  exact h
theorem MS.u2 {τ : Mem} {x : PS} (h : MS τ x) (k : Nat) (v : Int32) : MS (up2 τ 2 k v) x := by
  unfold MS
  rw [rd_c (by decide)]
  exact h
theorem MS.u02 {τ : Mem} {x : PS} (h : MS τ x) (v : Int32) : MS (up2 τ 0 2 v) x := by
  unfold MS
  rw [rd_ne (by decide), rd_ne (by decide), rd_ne (by decide), rd_ne (by decide), rd_ne (by decide), rd_ne (by decide)]
  exact h
theorem nx_dead {b : Nat → Int32} {T : Nat} {x : PS} (h : ¬ x.1 = 0) : nx b T x = x := if_neg h
theorem ck_dead {lo hi : Int32} {x : PS} (h : ¬ x.1 = 0) : ck lo hi x = x := if_neg h
theorem cq_dead {x : PS} (h : ¬ x.1 = 0) : cq x = x := if_neg h
/-- after a fault the rest of the line does nothing -/
theorem m_dead {b : Nat → Int32} {T N : Nat} {x : PS} {τ : Mem} {post : Mem → Prop} (ht : tapeM b T τ) (hM : MS τ x) (ok : okx T x) (h0 : ¬ x.1 = 0) (h : ∀ τ', Fx τ τ' → MS τ' x → post τ') : qX4_readLine_B61 post (nI N) τ := by
  have hw := hM.w0 ok
  have b96 : ∀ s1 : Int32, isB s1 → qX4_readLine_B96 post (nI N) s1 τ := by
    intro s1 hs
    unfold qX4_readLine_B96
    refine ⟨hs, ?_⟩
    rintro _ rfl
    have m2 := hM.u02 s1
    refine s4_readsOn (ht.fx (Fx.rf.u02 s1)) m2 ok (fun τ2 f2 m3 => ?_)
    rw [nx_dead h0] at m3
    have hl := m3.wl ok
    exact ⟨fun z => absurd (hl.mp z) h0, fun _ => h τ2 ((Fx.rf.u02 s1).tr f2.x) m3⟩
  have b78 : qX4_readLine_B78 post (nI N) τ := by
    unfold qX4_readLine_B78 qX4_readLine_B91
    exact ⟨fun _ => b96 1 isB_1, fun _ => ⟨fun _ => b96 0 isB_0, fun _ => b96 1 isB_1⟩⟩
  unfold qX4_readLine_B61
  exact ⟨fun _ => b78, fun _ => ⟨fun _ => b78, fun _ => s4_fails1 (fun z => h0 (hw.mp z)) b78⟩⟩
theorem m_stop {b : Nat → Int32} {T : Nat} {z : PS} {τ : Mem} {post : Mem → Prop} (ht : tapeM b T τ) (hM : MS τ z) (ok : okx T z) (h : ∀ τ', Ft τ τ' → MS τ' (nx b T (cq z)) → post τ') : (¬ τ 0 6 = 0 → qX4_readLine_B136 post τ) ∧ (τ 0 6 = 0 → ((τ 0 10 = 3 → qX4_readLine_B136 post τ) ∧ (¬ τ 0 10 = 3 → qX4_fails 2 τ (fun σ133 => qX4_readLine_B136 post σ133)))) := by
  have hw := hM.w0 ok
  unfold qX4_readLine_B136
  refine ⟨fun c => ?_, fun c => ?_⟩
  · have c0 : ¬ z.1 = 0 := fun q => c (hw.mpr q)
    rw [cq_dead c0] at h
    exact s4_readsOn ht hM ok h
  · have c0 := hw.mp c
    obtain ⟨e9, e8, e10, e11⟩ := hM.2.1 c0
    have hk := (ok.2.2 c0).2.2.1
    unfold cq at h
    rw [if_pos c0] at h
    rw [e10, show (3 : Int32) = nI 3 from rfl, nI_eq_iff (by omega) (by decide)]
    refine ⟨fun d => ?_, fun d => ?_⟩
    · rw [if_pos d] at h
      exact s4_readsOn ht hM ok h
    · rw [if_neg d] at h
      exact s4_fails (c := 2) hM ok c0 (by decide) (fun τ1 f1 m1 => s4_readsOn (ht.ft f1) m1 (wr_ok ok (by decide) (by decide)) (fun τ2 f2 m2 => h τ2 (f1.tr f2) m2))
/-- what the page read so far holds -/
def PgR (W A : Nat) (ρ τ : Mem) : Prop := Vd W A 0 ρ ∧ Sm 0 W A (vw τ) ρ 0 0 ∧ ∀ i, i < 4 → τ 2 (12 + i) = 0
theorem PgR.w {W A : Nat} {ρ τ : Mem} (h : PgR W A ρ τ) : τ 2 16 = nI W := by
  have q := h.2.1.2.2.1
  rw [h.1.1, vw_1] at q
  exact q
theorem PgR.a {W A : Nat} {ρ τ : Mem} (h : PgR W A ρ τ) : τ 2 33 = nI A := by
  have q := h.2.1.2.2.2.1
  rw [h.1.2.2.1, vw_1] at q
  exact q
theorem m_wheel {b : Nat → Int32} {T N W A : Nat} {x : PS} {s1 : Int32} {τ ρ : Mem} {post : Mem → Prop} (hT : T ≤ 160) (ht : tapeM b T τ) (hM : MS τ x) (ok : okx T x) (hB : isB s1) (pg : PgR W A ρ τ) (bd : Bd W 0 ρ) (hW : W < 4) (hN : N < 4) (h : ∀ τ', Fx τ τ' → MS τ' (nx b T (lW3 b T x)) → ((lW3 b T x).1 = 0 → τ' 0 2 = s1 ∧ PgR (W + 1) A (addW (nI N) (lW1 b T x).2.2.2.2 (lW2 b T x).2.2.2.2 ρ) τ') → post τ') : qX4_readLine_B96 post (nI N) s1 τ := by
  unfold qX4_readLine_B96
  refine ⟨hB, ?_⟩
  rintro _ rfl
  have f0 : Fx τ (up2 τ 0 2 s1) := Fx.rf.u02 s1
  refine s4_readsOn (ht.fx f0) (hM.u02 s1) ok (fun τ1 f1 m1 => ?_)
  have ok1 := nx_ok (b := b) hT ok
  have hl1 := m1.wl ok1
  refine ⟨fun c => ?_, fun c => ?_⟩
  · have c0 := hl1.mp c
    have F1 := f0.tr f1.x
    have e2 : τ1 2 = τ 2 := by rw [f1.1 2 (by decide), rd_c (by decide)]
    have e02 : τ1 0 2 = s1 := by rw [f1.2 2 (by decide), rd_eq]
    unfold qX4_readMore qX4_readMore_B141
    have l3 : (3 : Int32) < nI N ↔ 3 < N := nI_lt_iff (a := 3) (by decide) (by omega)
    refine ⟨fun z => absurd (l3.mp z) (by omega), fun _ => ⟨vl16_39, ?_⟩⟩
    rw [tl16, e2, pg.w]
    rintro _ rfl
    rw [tn_nI (by omega), jx4, jx8, tn_nI (by omega), tn_nI (by omega)]
    refine ⟨in_nI (by omega) (by decide), ?_⟩
    rintro _ rfl
    refine s4_number (ht.fx (F1.u2 _ _)) (m1.u2 _ _) ok1 (fun r1 τ2 f2 m2 k1 => ⟨in_nI (by omega) (by decide), ?_⟩)
    rintro _ rfl
    have F2 := (F1.u2 W (nI N)).tr f2.x
    have okw1 := nx_ok (b := b) hT (lW1_ok (b := b) hT ok)
    refine s4_number (ht.fx (F2.u2 _ _)) (m2.u2 _ _) okw1 (fun r2 τ3 f3 m3 k2 => ⟨in_nI (by omega) (by decide), ?_⟩)
    rintro _ rfl
    have F3 := (F2.u2 (4 + W) r1).tr f3.x
    have g2 : τ2 2 = upd (τ 2) W (nI N) := by rw [f2.1 2 (by decide), up2_fn, e2]
    have g3 : τ3 2 = upd (upd (τ 2) W (nI N)) (4 + W) r1 := by rw [f3.1 2 (by decide), up2_fn, g2]
    have e16 : up2 τ3 2 (8 + W) r2 2 16 = nI W := by
      rw [rd_ne (by omega), g3, pk_un (by omega), pk_un (by omega), pg.w]
    rw [e16, nI_1]
    rintro _ rfl
    have okw2 := nx_ok (b := b) hT (lW2_ok (b := b) hT ok)
    refine m_stop (ht.fx ((F3.u2 _ _).u2 _ _)) ((m3.u2 _ _).u2 _ _) okw2 (fun τ4 f4 m4 => ?_)
    have F4 := ((F3.u2 (8 + W) r2).u2 16 (nI (W + 1))).tr f4.x
    refine h τ4 F4 m4 (fun z => ?_)
    obtain ⟨⟨m, hm1, hm2, em⟩, ⟨l, hl2, el⟩, c10, c20⟩ := lW_0 z
    have er1 : r1 = nI m := by
      rw [k1 c10, ← em]
      show _ = (ck 1 20 (nx b T x)).2.2.2.2
      rw [(ck_0 c10).2.2.2.2]
    have er2 : r2 = nI l := by
      rw [k2 c20, ← el]
      show _ = (ck 0 9 (nx b T (lW1 b T x))).2.2.2.2
      rw [(ck_0 c20).2.2.2.2]
      rfl
    have g4 : τ4 2 = upd (upd (upd (upd (τ 2) W (nI N)) (4 + W) r1) (8 + W) r2) 16 (nI (W + 1)) := by rw [f4.1 2 (by decide), up2_fn, up2_fn, g3]
    have e02' : τ4 0 2 = s1 := by rw [f4.2 2 (by decide), rd_cj (by decide), rd_cj (by decide), f3.2 2 (by decide), rd_cj (by decide), f2.2 2 (by decide), rd_cj (by decide), e02]
    obtain ⟨v, s, zs⟩ := pg
    obtain ⟨p1, p2, p3⟩ := put_R1 v s bd hW (by omega : N ≤ 3) hm1 hm2 hl2
    refine ⟨e02', ?_⟩
    have ea : addW (nI N) (lW1 b T x).2.2.2.2 (lW2 b T x).2.2.2.2 ρ = up2 (up2 (up2 (up2 (up2 ρ 1 W (nI N)) 2 W (nI m)) 3 W (nI l)) 4 W 0) 0 2 (nI (W + 1)) := by
      unfold addW
      rw [em, el, v.1, tn_nI (by omega)]
    rw [ea]
    refine ⟨p1, p2.copy (by omega) v.2.2.2.1 (fun k hk => ?_), fun i hi => ?_⟩
    · rw [Nat.zero_add, vw_1, g4, er1, er2]
      rw [up2_fn, up2_fn, up2_fn, up2_fn, up2_fn, vw_1]
      by_cases q16 : k = 16
      · subst q16; rw [pk_us, pk_us]
      · rw [pk_un q16, pk_un q16]
        by_cases q12 : k = 12 + W
        · subst q12
          rw [pk_us, pk_un (by omega), pk_un (by omega), pk_un (by omega)]
          exact zs W hW
        · rw [pk_un q12]
    · rw [g4, pk_un (by omega), pk_un (by omega), pk_un (by omega), pk_un (by omega)]
      exact zs i hi
  · have c0 : ¬ (nx b T x).1 = 0 := fun q => c (hl1.mpr q)
    have d1 : lW1 b T x = nx b T x := ck_dead c0
    have d2 : lW2 b T x = nx b T x := by rw [lW2, d1, nx_dead c0, ck_dead c0]
    have d3 : lW3 b T x = nx b T x := by rw [lW3, d2, nx_dead c0, cq_dead c0]
    rw [d3] at h
    exact h τ1 (f0.tr f1.x) (by rw [nx_dead c0]; exact m1) (fun z => absurd z c0)
theorem m_shaft {b : Nat → Int32} {T W A : Nat} {x : PS} {s1 : Int32} {τ ρ : Mem} {post : Mem → Prop} (hT : T ≤ 160) (ht : tapeM b T τ) (hM : MS τ x) (ok : okx T x) (hB : isB s1) (pg : PgR W A ρ τ) (h : ∀ τ', Fx τ τ' → MS τ' (nx b T (lS2 b T x)) → ((lS2 b T x).1 = 0 → τ' 0 2 = s1 ∧ PgR W A (up2 ρ 0 0 (lW1 b T x).2.2.2.2) τ') → post τ') : qX4_readLine_B96 post (nI 4) s1 τ := by
  unfold qX4_readLine_B96
  refine ⟨hB, ?_⟩
  rintro _ rfl
  have f0 : Fx τ (up2 τ 0 2 s1) := Fx.rf.u02 s1
  refine s4_readsOn (ht.fx f0) (hM.u02 s1) ok (fun τ1 f1 m1 => ?_)
  have ok1 := nx_ok (b := b) hT ok
  have hl1 := m1.wl ok1
  refine ⟨fun c => ?_, fun c => ?_⟩
  · have c0 := hl1.mp c
    have F1 := f0.tr f1.x
    have e2 : τ1 2 = τ 2 := by rw [f1.1 2 (by decide), rd_c (by decide)]
    have e02 : τ1 0 2 = s1 := by rw [f1.2 2 (by decide), rd_eq]
    unfold qX4_readMore qX4_readMore_B141
    refine ⟨fun _ => ⟨fun z => absurd rfl z, fun _ => ?_⟩, fun z => absurd (by decide) z⟩
    refine s4_number (ht.fx F1) m1 ok1 (fun r1 τ2 f2 m2 k1 => ⟨vl34_39, ?_⟩)
    rw [tl34]
    rintro _ rfl
    have F2 := F1.tr f2.x
    have okw1 := nx_ok (b := b) hT (lW1_ok (b := b) hT ok)
    refine m_stop (ht.fx (F2.u2 _ _)) (m2.u2 _ _) okw1 (fun τ4 f4 m4 => ?_)
    have F4 := (F2.u2 34 (r1 - 5)).tr f4.x
    refine h τ4 F4 m4 (fun z => ?_)
    obtain ⟨⟨m, hm1, hm2, em⟩, c10⟩ := lS_0 z
    have er1 : r1 = nI m := by
      rw [k1 c10, ← em]
      show _ = (ck 1 20 (nx b T x)).2.2.2.2
      rw [(ck_0 c10).2.2.2.2]
    have g4 : τ4 2 = upd (τ 2) 34 (r1 - 5) := by rw [f4.1 2 (by decide), up2_fn, f2.1 2 (by decide), e2]
    have e02' : τ4 0 2 = s1 := by rw [f4.2 2 (by decide), rd_cj (by decide), f2.2 2 (by decide), e02]
    obtain ⟨v, s, zs⟩ := pg
    refine ⟨e02', by rw [em]; exact v.ms hm1 hm2, ?_, fun i hi => ?_⟩
    · have p2 := s.ms v.2.1 v.2.2.2.1 (nI m)
      rw [em]
      refine p2.copy v.2.1 v.2.2.2.1 (fun k hk => ?_)
      rw [Nat.zero_add, vw_1, g4, er1, up2_fn, vw_1]
    · rw [g4, pk_un (by omega)]
      exact zs i hi
  · have c0 : ¬ (nx b T x).1 = 0 := fun q => c (hl1.mpr q)
    have d1 : lW1 b T x = nx b T x := ck_dead c0
    have d3 : lS2 b T x = nx b T x := by rw [lS2, d1, nx_dead c0, cq_dead c0]
    rw [d3] at h
    exact h τ1 (f0.tr f1.x) (by rw [nx_dead c0]; exact m1) (fun z => absurd z c0)
theorem fA_eq {N : Nat} (h5 : 5 ≤ N) (h7 : N ≤ 7) : (100 : Int32) * (nI N - 5) = fA N := by
  have : N = 5 ∨ N = 6 ∨ N = 7 := by omega
  rcases this with rfl | rfl | rfl <;> decide
theorem m_act {b : Nat → Int32} {T N W A : Nat} {x : PS} {s1 : Int32} {τ ρ : Mem} {post : Mem → Prop} (hT : T ≤ 160) (ht : tapeM b T τ) (hM : MS τ x) (ok : okx T x) (hB : isB s1) (pg : PgR W A ρ τ) (bd : Bd W 0 ρ) (hA : A < 16) (h5 : 5 ≤ N) (h7 : N ≤ 7) (h : ∀ τ', Fx τ τ' → MS τ' (nx b T (lA2 b T N x)) → ((lA2 b T N x).1 = 0 → τ' 0 2 = s1 ∧ PgR W (A + 1) (addA (fA N + (lA1 b T N x).2.2.2.2) ρ) τ') → post τ') : qX4_readLine_B96 post (nI N) s1 τ := by
  unfold qX4_readLine_B96
  refine ⟨hB, ?_⟩
  rintro _ rfl
  have f0 : Fx τ (up2 τ 0 2 s1) := Fx.rf.u02 s1
  refine s4_readsOn (ht.fx f0) (hM.u02 s1) ok (fun τ1 f1 m1 => ?_)
  have ok1 := nx_ok (b := b) hT ok
  have hl1 := m1.wl ok1
  refine ⟨fun c => ?_, fun c => ?_⟩
  · have c0 := hl1.mp c
    have F1 := f0.tr f1.x
    have e2 : τ1 2 = τ 2 := by rw [f1.1 2 (by decide), rd_c (by decide)]
    have e02 : τ1 0 2 = s1 := by rw [f1.2 2 (by decide), rd_eq]
    have l3 : (3 : Int32) < nI N ↔ 3 < N := nI_lt_iff (a := 3) (by decide) (by omega)
    have i4 : nI N = 4 ↔ N = 4 := nI_eq_iff (b := 4) (by omega) (by decide)
    have i7 : nI N = 7 ↔ N = 7 := nI_eq_iff (b := 7) (by omega) (by decide)
    unfold qX4_readMore
    refine ⟨fun _ => ⟨fun _ => ⟨vl33_39, ?_⟩, fun z => absurd (i4.mp z) (by omega)⟩, fun z => absurd (l3.mpr (by omega)) z⟩
    rw [tl33, e2, pg.a, fA_eq h5 h7]
    rintro _ rfl
    rw [jx17]
    have go : ∀ hi : Int32, hi = hiA N → qX4_readMore_B125 (nI N) (fun σ113 => (¬ σ113 0 6 = 0 → qX4_readLine_B136 post σ113) ∧ (σ113 0 6 = 0 → ((σ113 0 10 = 3 → qX4_readLine_B136 post σ113) ∧ (¬ σ113 0 10 = 3 → qX4_fails 2 σ113 (fun σ133 => qX4_readLine_B136 post σ133))))) (nI (17 + A)) (fA N) 0 hi τ1 := by
      rintro _ rfl
      unfold qX4_readMore_B125 qX4_readMore_B141
      rw [tn_nI (by omega), tl33]
      refine s4_number (ht.fx F1) m1 ok1 (fun r1 τ2 f2 m2 k1 => ⟨in_nI (by omega) (by decide), ?_⟩)
      rintro _ rfl
      have F2 := F1.tr f2.x
      have g2 : τ2 2 = τ 2 := by rw [f2.1 2 (by decide), e2]
      have e33 : up2 τ2 2 (17 + A) (fA N + r1) 2 33 = nI A := by rw [rd_ne (by omega), g2, pg.a]
      rw [e33, nI_1]
      refine ⟨vl33_39, ?_⟩
      rintro _ rfl
      have okw1 := nx_ok (b := b) hT (lA1_ok (b := b) (N := N) hT ok)
      refine m_stop (ht.fx ((F2.u2 _ _).u2 _ _)) ((m2.u2 _ _).u2 _ _) okw1 (fun τ4 f4 m4 => ?_)
      have F4 := ((F2.u2 (17 + A) (fA N + r1)).u2 33 (nI (A + 1))).tr f4.x
      refine h τ4 F4 m4 (fun z => ?_)
      obtain ⟨⟨m, hm, em⟩, c10⟩ := lA_0 h7 z
      have er1 : r1 = (lA1 b T N x).2.2.2.2 := by
        rw [k1 c10]
        show _ = (ck 0 (hiA N) (nx b T x)).2.2.2.2
        rw [(ck_0 c10).2.2.2.2]
      have g4 : τ4 2 = upd (upd (τ 2) (17 + A) (nI m)) 33 (nI (A + 1)) := by rw [f4.1 2 (by decide), up2_fn, up2_fn, g2, er1, em]
      have e02' : τ4 0 2 = s1 := by rw [f4.2 2 (by decide), rd_cj (by decide), rd_cj (by decide), f2.2 2 (by decide), e02]
      obtain ⟨v, s, zs⟩ := pg
      obtain ⟨p1, p2, p3⟩ := add_R1 v s bd hA hm
      have ea : addA (fA N + (lA1 b T N x).2.2.2.2) ρ = up2 (up2 ρ 5 A (nI m)) 0 7 (nI (A + 1)) := by
        unfold addA
        rw [em, v.2.2.1, tn_nI (by omega)]
      rw [ea]
      refine ⟨e02', p1, p2.copy v.2.1 (by omega) (fun k hk => ?_), fun i hi => ?_⟩
      · rw [Nat.zero_add, vw_1, g4, up2_fn, up2_fn, vw_1]
      · rw [g4, pk_un (by omega), pk_un (by omega)]
        exact zs i hi
    refine ⟨fun d => go _ ?_, fun d => go _ ?_⟩
    · rw [i7] at d; rw [hiA, if_neg d]
    · rw [i7] at d; rw [hiA, if_pos d]
  · have c0 : ¬ (nx b T x).1 = 0 := fun q => c (hl1.mpr q)
    have d1 : lA1 b T N x = nx b T x := ck_dead c0
    have d3 : lA2 b T N x = nx b T x := by rw [lA2, d1, nx_dead c0, cq_dead c0]
    rw [d3] at h
    exact h τ1 (f0.tr f1.x) (by rw [nx_dead c0]; exact m1) (fun z => absurd z c0)
