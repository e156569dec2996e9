/-! PURE, 19: the reference's tokens -/
def bAt (b : Nat → Int32) (T i : Nat) : Int32 := if i < T then b i else -4
def tapeM (b : Nat → Int32) (T : Nat) (τ : Mem) : Prop := T ≤ 160 ∧ τ 0 4 = nI T ∧ (∀ i, i < T → τ 3 i = b i) ∧ (∀ i, i < T → ∃ v, v ≤ 127 ∧ b i = nI v)
theorem s4_byteAt {b : Nat → Int32} {T i : Nat} {τ : Mem} {post : Int32 → Mem → Prop} (ht : tapeM b T τ) (hi : i ≤ T) (h : post (bAt b T i) τ) : qX4_byteAt (nI i) τ post := by
  obtain ⟨hT, e4, e3, -⟩ := ht
  unfold qX4_byteAt qX4_byteAt_B19
  unfold bAt at h
  rw [e4, nI_le_iff (by omega) (by omega), tn_nI (by omega)]
  refine ⟨fun c => ?_, fun c => ⟨in_nI (by omega) (by decide), ?_⟩⟩
  · rw [if_neg (by omega)] at h; exact h
  · rw [if_pos (by omega)] at h; rw [e3 i (by omega)]; exact h
theorem s4_let {b : Nat → Int32} {T i : Nat} {τ : Mem} {post : Int32 → Mem → Prop} (h1 : qL b T i = true → post 1 τ) (h0 : ¬ qL b T i = true → post 0 τ) : qX4_in (bAt b T i).toInt64 97 122 τ post := by
  refine s4_in (lo := 97) (hi := 122) rfl rfl (fun c1 c2 => h1 ?_) (fun c => h0 (fun z => ?_))
  · unfold bAt at c1 c2
    by_cases q : i < T
    · rw [if_pos q] at c1 c2
      refine qL_t.mpr ⟨q, ?_⟩
      unfold letB
      rw [decide_eq_true_eq]
      exact ⟨c1, c2⟩
    · rw [if_neg q] at c1
      exact absurd (by decide) c1
  · obtain ⟨q1, q2⟩ := qL_t.mp z
    unfold letB at q2
    rw [decide_eq_true_eq] at q2
    unfold bAt at c
    rw [if_pos q1] at c
    rcases c with c | c
    · exact q2.1 c
    · exact q2.2 c
theorem s4_dig {b : Nat → Int32} {T i : Nat} {τ : Mem} {post : Int32 → Mem → Prop} (h1 : qD b T i = true → post 1 τ) (h0 : ¬ qD b T i = true → post 0 τ) : qX4_in (bAt b T i).toInt64 48 57 τ post := by
  refine s4_in (lo := 48) (hi := 57) rfl rfl (fun c1 c2 => h1 ?_) (fun c => h0 (fun z => ?_))
  · unfold bAt at c1 c2
    by_cases q : i < T
    · rw [if_pos q] at c1 c2
      refine qD_t.mpr ⟨q, ?_⟩
      unfold digB
      rw [decide_eq_true_eq]
      exact ⟨c1, c2⟩
    · rw [if_neg q] at c1
      exact absurd (by decide) c1
  · obtain ⟨q1, q2⟩ := qD_t.mp z
    unfold digB at q2
    rw [decide_eq_true_eq] at q2
    unfold bAt at c
    rw [if_pos q1] at c
    rcases c with c | c
    · exact q2.1 c
    · exact q2.2 c
def MS (τ : Mem) (x : PS) : Prop := τ 0 6 = nI x.1 ∧ (x.1 = 0 → τ 0 9 = nI x.2.1 ∧ τ 0 8 = nI x.2.2.1 ∧ τ 0 10 = nI x.2.2.2.1 ∧ (x.2.2.2.1 = 2 → τ 0 11 = x.2.2.2.2)) ∧ (¬ x.1 = 0 → τ 0 7 = nI x.2.1)
/-- what reading a token leaves alone -/
def Ft (τ τ' : Mem) : Prop := (∀ c, c ≠ 0 → τ' c = τ c) ∧ (∀ j, j < 6 ∨ 12 ≤ j → τ' 0 j = τ 0 j)
theorem Ft.rf {τ : Mem} : Ft τ τ := ⟨fun _ _ => rfl, fun _ _ => rfl⟩
theorem Ft.tr {a b c : Mem} (h : Ft a b) (g : Ft b c) : Ft a c := ⟨fun k hk => (g.1 k hk).trans (h.1 k hk), fun k hk => (g.2 k hk).trans (h.2 k hk)⟩
theorem Ft.up {τ τ' : Mem} (h : Ft τ τ') {j : Nat} (h1 : 6 ≤ j) (h2 : j < 12) (x : Int32) : Ft τ (up2 τ' 0 j x) := ⟨fun c hc => by rw [rd_c hc]; exact h.1 c hc, fun k hk => by rw [rd_ne (by omega)]; exact h.2 k hk⟩
theorem tapeM.ft {b : Nat → Int32} {T : Nat} {τ τ' : Mem} (h : tapeM b T τ) (f : Ft τ τ') : tapeM b T τ' := by
  unfold tapeM
  rw [f.2 4 (by decide), f.1 3 (by decide)]
  exact h
theorem s4_fails0 {x : Int32} {τ : Mem} {post : Mem → Prop} (h6 : τ 0 6 = 0) (h : post (up2 (up2 τ 0 6 x) 0 7 (τ 0 9))) : qX4_fails x τ post := by
  unfold qX4_fails qX4_fails_B20
  refine ds_t h6 ?_
  rintro _ rfl
  rw [rd_ne (by decide)]
  rintro _ rfl
  exact h
theorem s4_fails1 {x : Int32} {τ : Mem} {post : Mem → Prop} (h6 : ¬ τ 0 6 = 0) (h : post τ) : qX4_fails x τ post := by
  unfold qX4_fails qX4_fails_B20
  exact ds_f h6 h
def tkM (τ : Mem) (b : Nat → Int32) (s a : Nat) : Mem := up2 (up2 τ 0 11 (nv b s a)) 0 8 (nI a)
theorem s4_readsOn0 {b : Nat → Int32} {T a : Nat} {τ : Mem} {post : Mem → Prop} (ht : tapeM b T τ) (haT : a ≤ T) (h6 : τ 0 6 = 0) (h8 : τ 0 8 = nI a) (h : ∀ τ', Ft τ τ' → MS τ' (tok4 b T a) → post τ') : qX4_readsOn τ post := by
  have hT := ht.1
  have hbv := ht.2.2.2
  unfold qX4_readsOn
  refine ⟨fun _ => ?_, fun z => absurd (by rw [h6]; exact Int32.le_refl 0) z⟩
  have e0 : τ = up2 τ 0 8 (nI a) := by rw [← h8, up2_self]
  have hsT := sp_le (b := b) haT
  have hge := skp_ge (qS b T) 161 a
  have hst := skp_stop (qS b T) (T := T) (fun i hi => (qS_t.mp hi).1) 161 a (by omega)
  have hall := skp_all (qS b T) 161 a
  unfold tok4 at h
  rw [e0]
  refine it0_skp (q := qS b T) (fun a => up2 τ 0 8 (nI a)) 0 (fun i _ hq K hK => ?_) 161 a (Nat.zero_le _) (fun K => ?_)
  · obtain ⟨q1, q2⟩ := qS_t.mp hq
    show qX4_readsOn_L8 post K (up2 τ 0 8 (nI i))
    unfold qX4_readsOn_L8
    rw [rd_eq]
    refine s4_byteAt (ht.ft (Ft.rf.up (by decide) (by decide) _)) (by omega) ?_
    rw [bAt, if_pos q1, q2, rd_eq, nI_1, up2_up2]
    refine ⟨fun z => absurd rfl z, fun _ => ?_⟩
    rintro _ rfl
    exact hK
  · show qX4_readsOn_L8 post K (up2 τ 0 8 (nI (skp (qS b T) 161 a)))
    generalize hE : skp (qS b T) 161 a = s at *
    simp only [] at h
    unfold qX4_readsOn_L8
    rw [rd_eq]
    refine s4_byteAt (ht.ft (Ft.rf.up (by decide) (by decide) _)) hsT ?_
    rw [rd_eq]
    have hn32 : ¬ bAt b T s = 32 := by
      unfold bAt
      by_cases c : s < T
      · rw [if_pos c]; exact fun z => hst (qS_t.mpr ⟨c, z⟩)
      · rw [if_neg c]; decide
    refine ds_f hn32 ?_
    rintro _ rfl
    rw [rd_ne (by decide), rd_eq]
    have f1 : Ft τ (up2 (up2 τ 0 8 (nI s)) 0 9 (nI s)) := (Ft.rf.up (by decide) (by decide) _).up (by decide) (by decide) _
    refine s4_byteAt (ht.ft f1) hsT ?_
    rintro _ rfl
    have f2 : Ft τ (up2 (up2 (up2 τ 0 8 (nI s)) 0 9 (nI s)) 0 11 0) := f1.up (by decide) (by decide) _
    have g6 : up2 (up2 (up2 τ 0 8 (nI s)) 0 9 (nI s)) 0 11 0 0 6 = 0 := by rw [rd_ne (by decide), rd_ne (by decide), rd_ne (by decide)]; exact h6
    have g8 : up2 (up2 (up2 τ 0 8 (nI s)) 0 9 (nI s)) 0 11 0 0 8 = nI s := by rw [rd_ne (by decide), rd_ne (by decide), rd_eq]
    have g9 : up2 (up2 (up2 τ 0 8 (nI s)) 0 9 (nI s)) 0 11 0 0 9 = nI s := by rw [rd_ne (by decide), rd_eq]
    have g11 : up2 (up2 (up2 τ 0 8 (nI s)) 0 9 (nI s)) 0 11 0 0 11 = 0 := rd_eq _ _ _ _
    generalize up2 (up2 (up2 τ 0 8 (nI s)) 0 9 (nI s)) 0 11 0 = τ1 at *
    have ht1 := ht.ft f2
    by_cases c : s < T
    · rw [if_pos c] at h
      obtain ⟨bv, hbv1, ebv⟩ := hbv s c
      have nm4 : ¬ bAt b T s = -4 := by rw [bAt, if_pos c, ebv]; exact ne_m4 (by omega)
      refine ds_f nm4 (s4_let (fun d => z1 ?_) (fun d => z0 ?_))
      · have d2 := (qL_t.mp d).2
        rw [if_pos d2] at h
        have hle := let_le (b := b) (T := T) (a := s) hsT
        have hst2 := skp_stop (qL b T) (T := T) (fun i hi => (qL_t.mp hi).1) 161 s (by omega)
        have e1 : τ1 = up2 τ1 0 8 (nI s) := by rw [← g8, up2_self]
        rw [e1]
        refine it0_skp (q := qL b T) (fun a => up2 τ1 0 8 (nI a)) 0 (fun i _ hq K' hK' => ?_) 161 s (Nat.zero_le _) (fun K' => ?_)
        · obtain ⟨q1, q2⟩ := qL_t.mp hq
          show qX4_readsOn_L84 post K' (up2 τ1 0 8 (nI i))
          unfold qX4_readsOn_L84
          rw [rd_eq]
          refine s4_byteAt (ht1.ft (Ft.rf.up (by decide) (by decide) _)) (by omega) (s4_let (fun _ => z1 ?_) (fun z => absurd hq z))
          rw [rd_eq, nI_1, up2_up2]
          rintro _ rfl
          exact hK'
        · show qX4_readsOn_L84 post K' (up2 τ1 0 8 (nI (skp (qL b T) 161 s)))
          generalize hE2 : skp (qL b T) 161 s = e at *
          unfold qX4_readsOn_L84 qX4_readsOn_B269
          rw [rd_eq]
          refine s4_byteAt (ht1.ft (Ft.rf.up (by decide) (by decide) _)) hle (s4_let (fun z => absurd z hst2) (fun _ => z0 ?_))
          rintro _ rfl
          refine h _ ((f2.up (by decide) (by decide) _).up (by decide) (by decide) _) ⟨?_, fun _ => ⟨?_, ?_, ?_, fun z => nomatch z⟩, fun z => absurd rfl z⟩
          · rw [rd_ne (by decide), rd_ne (by decide)]; exact g6
          · rw [rd_ne (by decide), rd_ne (by decide)]; exact g9
          · rw [rd_ne (by decide), rd_eq]
          · exact rd_eq _ _ _ _
      · have d2 : ¬ letB (b s) = true := fun z => d (qL_t.mpr ⟨c, z⟩)
        rw [if_neg d2] at h
        refine s4_dig (fun g => z1 ?_) (fun g => z0 ?_)
        · have g2 := (qD_t.mp g).2
          rw [if_pos g2] at h
          have hle := dig_le (b := b) (T := T) (a := s) hsT
          have hge2 := skp_ge (qD b T) 161 s
          have hst2 := skp_stop (qD b T) (T := T) (fun i hi => (qD_t.mp hi).1) 161 s (by omega)
          have e1 : τ1 = tkM τ1 b s s := by
            unfold tkM
            rw [nv, if_pos (Nat.le_refl _), ← g8, ← g11, up2_self, up2_self]
          have r8 : ∀ a, tkM τ1 b s a 0 8 = nI a := fun a => rd_eq _ _ _ _
          have r9 : ∀ a, tkM τ1 b s a 0 9 = nI s := fun a => by rw [tkM, rd_ne (by decide), rd_ne (by decide)]; exact g9
          have r6 : ∀ a, tkM τ1 b s a 0 6 = 0 := fun a => by rw [tkM, rd_ne (by decide), rd_ne (by decide)]; exact g6
          have r11 : ∀ a, tkM τ1 b s a 0 11 = nv b s a := fun a => by rw [tkM, rd_ne (by decide), rd_eq]
          have fM : ∀ a, Ft τ (tkM τ1 b s a) := fun a => (f2.up (by decide) (by decide) _).up (by decide) (by decide) _
          have up : ∀ a x, up2 (up2 (tkM τ1 b s a) 0 11 x) 0 8 (nI (a + 1)) = up2 (up2 τ1 0 11 x) 0 8 (nI (a + 1)) := fun a x => by
            rw [tkM, up2_comm (up2 τ1 0 11 (nv b s a)) (nI a) x (Or.inr (by decide)), up2_up2, up2_up2]
          rw [e1]
          refine it0_skp (q := qD b T) (fun a => tkM τ1 b s a) s (fun i hsi hq K' hK' => ?_) 161 s (Nat.le_refl _) (fun K' => ?_)
          · obtain ⟨q1, q2⟩ := qD_t.mp hq
            show qX4_readsOn_L140 post K' (tkM τ1 b s i)
            unfold qX4_readsOn_L140
            rw [r8]
            refine s4_byteAt (ht.ft (fM i)) (by omega) (s4_dig (fun _ => z1 ?_) (fun z => absurd hq z))
            rw [r8, r9, r11, pk_sub hsi, show (2 : Int32) = nI 2 from rfl, nI_le_iff (by decide) (by omega)]
            have fin : ∀ x, x = nv b s (i + 1) → qX4_readsOn_B201 post K' x (tkM τ1 b s i) := by
              rintro _ rfl
              unfold qX4_readsOn_B201
              rintro _ rfl
              rw [rd_ne (by decide), r8, nI_1, up]
              rintro _ rfl
              exact hK'
            refine ⟨fun r => fin _ ?_, fun r => s4_byteAt (ht.ft (fM i)) (by omega) (fin _ ?_)⟩
            · unfold nv
              rw [if_neg (by omega), if_neg (by omega), if_neg (by omega), if_neg (by omega)]
            · rw [bAt, if_pos q1]
              unfold nv
              have : i = s ∨ i = s + 1 := by omega
              rcases this with rfl | rfl
              · rw [if_pos (Nat.le_refl _), if_neg (by omega), if_pos rfl]
                rfl
              · rw [if_neg (by omega), if_pos rfl, if_neg (by omega), if_neg (by omega), Int32.mul_comm 10]
          · show qX4_readsOn_L140 post K' (tkM τ1 b s (skp (qD b T) 161 s))
            generalize hE2 : skp (qD b T) 161 s = e at *
            unfold qX4_readsOn_L140 qX4_readsOn_B269
            rw [r8]
            refine s4_byteAt (ht.ft (fM e)) hle (s4_dig (fun z => absurd z hst2) (fun _ => z0 ?_))
            rintro _ rfl
            rw [rd_ne (by decide), r8, rd_ne (by decide), r9, pk_sub hge2.1, show (2 : Int32) = nI 2 from rfl, nI_le_iff (by omega) (by decide)]
            refine ⟨fun r => ?_, fun r => ?_⟩
            · rw [if_pos (by omega)] at h
              refine h _ ((fM e).up (by decide) (by decide) _) ⟨?_, fun _ => ⟨?_, ?_, rd_eq _ _ _ _, fun _ => ?_⟩, fun z => absurd rfl z⟩
              · rw [rd_ne (by decide), r6]; rfl
              · rw [rd_ne (by decide), r9]
              · rw [rd_ne (by decide), r8]
              · rw [rd_ne (by decide), r11]
            · rw [if_neg (by omega)] at h
              refine s4_fails0 (by rw [rd_ne (by decide), r6]) ?_
              rw [rd_ne (by decide), r9]
              refine h _ ((((fM e).up (by decide) (by decide) _).up (by decide) (by decide) _).up (by decide) (by decide) _) ⟨?_, fun z => (nomatch z), fun _ => rd_eq _ _ _ _⟩
              rw [rd_ne (by decide), rd_eq]; rfl
        · have g2 : ¬ digB (b s) = true := fun z => g (qD_t.mpr ⟨c, z⟩)
          rw [if_neg g2] at h
          rintro _ rfl
          rw [rd_ne (by decide), g8, nI_1]
          rintro _ rfl
          have f3 : Ft τ (up2 (up2 τ1 0 10 3) 0 8 (nI (s + 1))) := (f2.up (by decide) (by decide) _).up (by decide) (by decide) _
          have k6 : up2 (up2 τ1 0 10 3) 0 8 (nI (s + 1)) 0 6 = 0 := by rw [rd_ne (by decide), rd_ne (by decide)]; exact g6
          have k9 : up2 (up2 τ1 0 10 3) 0 8 (nI (s + 1)) 0 9 = nI s := by rw [rd_ne (by decide), rd_ne (by decide)]; exact g9
          rw [show bAt b T s = b s by rw [bAt, if_pos c]]
          unfold qX4_readsOn_B269
          refine ⟨fun r => ?_, fun r => ?_⟩
          · rw [if_pos r] at h
            refine h _ f3 ⟨k6, fun _ => ⟨k9, rd_eq _ _ _ _, ?_, fun z => nomatch z⟩, fun z => absurd rfl z⟩
            rw [rd_ne (by decide), rd_eq]; rfl
          · rw [if_neg r] at h
            refine s4_fails0 k6 ?_
            rw [k9]
            refine h _ ((f3.up (by decide) (by decide) _).up (by decide) (by decide) _) ⟨?_, fun z => (nomatch z), fun _ => rd_eq _ _ _ _⟩
            rw [rd_ne (by decide), rd_eq]; rfl
    · rw [if_neg c] at h
      refine ds_t (by rw [bAt, if_neg c]) ?_
      rintro _ rfl
      unfold qX4_readsOn_B269
      refine h _ (f2.up (by decide) (by decide) _) ⟨?_, fun _ => ⟨?_, ?_, rd_eq _ _ _ _, fun z => nomatch z⟩, fun z => absurd rfl z⟩
      · rw [rd_ne (by decide)]; exact g6
      · rw [rd_ne (by decide)]; exact g9
      · rw [rd_ne (by decide)]; exact g8
