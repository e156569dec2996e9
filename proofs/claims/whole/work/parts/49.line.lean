/-! PURE, 20: names, checks -/
def wl (l : Nat) : Nat := sb_len.getD l 0
def wc (l i : Nat) : Int32 := (sb_byt.getD l []).getD i 0 &&& 255
def isW (b : Nat → Int32) (p a l : Nat) : Prop := a - p = wl l ∧ ∀ i, i < wl l → b (p + i) = wc l i
def isWB (b : Nat → Int32) (p a l : Nat) : Bool := decide (a - p = wl l) && (List.range (wl l)).all (fun i => decide (b (p + i) = wc l i))
theorem isWB_t {b : Nat → Int32} {p a l : Nat} : isWB b p a l = true ↔ isW b p a l := by
  simp [isWB, isW, List.all_eq_true, List.mem_range]
def nm (b : Nat → Int32) (p a : Nat) : Nat := skp (fun l => decide (l < 8) && !isWB b p a l) 9 0
theorem nm_q {b : Nat → Int32} {p a l : Nat} : (decide (l < 8) && !isWB b p a l) = true ↔ l < 8 ∧ ¬ isW b p a l := by
  rw [Bool.and_eq_true, decide_eq_true_eq, Bool.not_eq_true', ← isWB_t]
  simp
theorem nm_le (b : Nat → Int32) (p a : Nat) : nm b p a ≤ 8 := by
  have hge := skp_ge (fun l => decide (l < 8) && !isWB b p a l) 9 0
  unfold nm
  by_cases c : 0 < skp (fun l => decide (l < 8) && !isWB b p a l) 9 0
  · have := nm_q.mp (skp_all (fun l => decide (l < 8) && !isWB b p a l) 9 0 (skp (fun l => decide (l < 8) && !isWB b p a l) 9 0 - 1) (by omega) (by omega))
    omega
  · omega
theorem nm_no (b : Nat → Int32) (p a : Nat) {j : Nat} (hj : j < nm b p a) : ¬ isW b p a j := (nm_q.mp (skp_all (fun l => decide (l < 8) && !isWB b p a l) 9 0 j (Nat.zero_le _) hj)).2
theorem nm_is (b : Nat → Int32) (p a : Nat) (h : nm b p a < 8) : isW b p a (nm b p a) := by
  have hst := skp_stop (fun l => decide (l < 8) && !isWB b p a l) (T := 8) (fun i hi => (nm_q.mp hi).1) 9 0 (by decide)
  by_cases c : isW b p a (nm b p a)
  · exact c
  · exact absurd (nm_q.mpr ⟨h, c⟩) hst
theorem wl_pos : ∀ l, l < 8 → 4 ≤ wl l ∧ wl l ≤ 5 := by decide +kernel
theorem s2_tokenIs {p a l : Nat} {σ : Mem} {post : Int32 → Mem → Prop} (hpa : p ≤ a) (ha : a ≤ 160) (e3 : σ 33 3 = nI a) (e5 : σ 33 5 = nI p) (hl : l < 8) (h1 : isW (σ 34) p a l → post 1 σ) (h0 : ¬ isW (σ 34) p a l → post 0 σ) : qX2_tokenIs l σ post := by
  have hwl := wl_pos l hl
  unfold qX2_tokenIs qJ0_length_8abf5
  rw [e3, e5, pk_sub hpa, show sb_len.getD l 0 = wl l from rfl]
  have i1 : nI (a - p) = nI (wl l) ↔ a - p = wl l := nI_eq_iff (by omega) (by omega)
  refine ⟨fun c' => ?_, fun c => h0 (fun z => c (i1.mpr z.1))⟩
  have c := i1.mp c'
  refine it1_inv (wl l) (fun i y σ' => y = nI i ∧ σ' = σ ∧ ∀ j, j < i → σ 34 (p + j) = wc l j) (fun i hi y σ' hI K hK => ?_) (fun y σ' hI K => ?_) 0 σ ⟨nI_0.symm, rfl, fun j hj => absurd hj (Nat.not_lt_zero j)⟩
  · obtain ⟨rfl, rfl, g⟩ := hI
    unfold qX2_tokenIs_L20 qJ0_length_8abf5 qJ0_charAt_5068e
    rw [show sb_len.getD l 0 = wl l from rfl]
    refine ⟨fun r => absurd ((nI_le_iff (by omega) (by omega)).mp r) (by omega), fun _ => ⟨by rw [e5, nI_add]; exact in_nI (by omega) (by decide), in_nI hi (by omega), ?_⟩⟩
    show (σ' 34 (σ' 33 5 + nI i).toNatClampNeg = (sb_byt.getD l []).getD (nI i).toNatClampNeg 0 &&& 255 → ∀ y2_49 : Int32, y2_49 = nI i + 1 → K y2_49 σ') ∧ (¬ σ' 34 (σ' 33 5 + nI i).toNatClampNeg = (sb_byt.getD l []).getD (nI i).toNatClampNeg 0 &&& 255 → post 0 σ')
    rw [e5, nI_add, tn_nI (by omega), tn_nI (by omega), nI_1]
    refine ⟨fun r => ?_, fun r => h0 (fun z => r (z.2 i hi))⟩
    rintro _ rfl
    refine hK _ _ ⟨rfl, rfl, fun j hj => ?_⟩
    by_cases e : j = i
    · subst e; exact r
    · exact g j (by omega)
  · obtain ⟨rfl, rfl, g⟩ := hI
    unfold qX2_tokenIs_L20 qJ0_length_8abf5
    rw [show sb_len.getD l 0 = wl l from rfl]
    exact ⟨fun _ => h1 ⟨c, g⟩, fun r => absurd (Int32.le_refl _) r⟩
theorem s2_nameOfLine {l : Nat} {σ : Mem} {post : Nat → Mem → Prop} (hl : l < 8) (h : post l σ) : qX2_nameOfLine (nI l) σ post := by
  unfold qX2_nameOfLine
  have : l = 0 ∨ l = 1 ∨ l = 2 ∨ l = 3 ∨ l = 4 ∨ l = 5 ∨ l = 6 ∨ l = 7 := by omega
  have no : ∀ a c : Nat, a < 8 → c < 8 → a ≠ c → ¬ nI a = nI c := fun a c h1 h2 h3 z => h3 ((nI_eq_iff (by omega) (by omega)).mp z)
  rcases this with rfl | rfl | rfl | rfl | rfl | rfl | rfl | rfl
  · exact cs_t rfl h
  · exact cs_f (no 1 0 (by decide) (by decide) (by decide)) (cs_t rfl h)
  · exact cs_f (no 2 0 (by decide) (by decide) (by decide)) (cs_f (no 2 1 (by decide) (by decide) (by decide)) (cs_t rfl h))
  · exact cs_f (no 3 0 (by decide) (by decide) (by decide)) (cs_f (no 3 1 (by decide) (by decide) (by decide)) (cs_f (no 3 2 (by decide) (by decide) (by decide)) (cs_t rfl h)))
  · exact cs_f (no 4 0 (by decide) (by decide) (by decide)) (cs_f (no 4 1 (by decide) (by decide) (by decide)) (cs_f (no 4 2 (by decide) (by decide) (by decide)) (cs_f (no 4 3 (by decide) (by decide) (by decide)) (cs_t rfl h))))
  · exact cs_f (no 5 0 (by decide) (by decide) (by decide)) (cs_f (no 5 1 (by decide) (by decide) (by decide)) (cs_f (no 5 2 (by decide) (by decide) (by decide)) (cs_f (no 5 3 (by decide) (by decide) (by decide)) (cs_f (no 5 4 (by decide) (by decide) (by decide)) (cs_t rfl h)))))
  · exact cs_f (no 6 0 (by decide) (by decide) (by decide)) (cs_f (no 6 1 (by decide) (by decide) (by decide)) (cs_f (no 6 2 (by decide) (by decide) (by decide)) (cs_f (no 6 3 (by decide) (by decide) (by decide)) (cs_f (no 6 4 (by decide) (by decide) (by decide)) (cs_f (no 6 5 (by decide) (by decide) (by decide)) (cs_t rfl h))))))
  · exact cs_f (no 7 0 (by decide) (by decide) (by decide)) (cs_f (no 7 1 (by decide) (by decide) (by decide)) (cs_f (no 7 2 (by decide) (by decide) (by decide)) (cs_f (no 7 3 (by decide) (by decide) (by decide)) (cs_f (no 7 4 (by decide) (by decide) (by decide)) (cs_f (no 7 5 (by decide) (by decide) (by decide)) (cs_f (no 7 6 (by decide) (by decide) (by decide)) h))))))
/-- the line that a token begins -/
def nmk (b : Nat → Int32) (x : PS) : Nat := if x.2.2.2.1 = 1 then nm b x.2.1 x.2.2.1 else 8
theorem nmk_le (b : Nat → Int32) (x : PS) : nmk b x ≤ 8 := by
  unfold nmk
  split
  · exact nm_le _ _ _
  · exact Nat.le_refl _
theorem s2_lineOfName {x : PS} {σ : Mem} {post : Int32 → Mem → Prop} (hC : CS σ x) (h0 : x.1 = 0) (hpa : x.2.1 ≤ x.2.2.1) (ha : x.2.2.1 ≤ 160) (hk : x.2.2.2.1 ≤ 3) (h : post (nI (nmk (σ 34) x)) σ) : qX2_lineOfName σ post := by
  obtain ⟨-, e5, c2⟩ := hC
  obtain ⟨e3, e4, -⟩ := c2 h0
  unfold qX2_lineOfName qX2_lineOfName_B35
  unfold nmk at h
  rw [e4, show (1 : Int32) = nI 1 from rfl, nI_eq_iff (by omega) (by decide)]
  refine ⟨fun c => ?_, fun c => ?_⟩
  · rw [if_neg c] at h; exact h
  · rw [if_pos c] at h
    have hN := nm_le (σ 34) x.2.1 x.2.2.1
    have hno := fun j (hj : j < nm (σ 34) x.2.1 x.2.2.1) => nm_no (σ 34) x.2.1 x.2.2.1 hj
    have his := nm_is (σ 34) x.2.1 x.2.2.1
    generalize nm (σ 34) x.2.1 x.2.2.1 = N at *
    refine it1_inv N (fun j y σ' => y = nI j ∧ σ' = σ) (fun j hj y σ' hI K hK => ?_) (fun y σ' hI K => ?_) 0 σ ⟨nI_0.symm, rfl⟩
    · obtain ⟨rfl, rfl⟩ := hI
      unfold qX2_lineOfName_L10
      refine ⟨fun r => absurd ((nI_le_iff (a := 8) (by decide) (by omega)).mp r) (by omega), fun _ => s2_nameOfLine (by omega) (s2_tokenIs hpa ha e3 e5 (by omega) (fun z => absurd z (hno j hj)) (fun _ => z0 ?_))⟩
      rw [nI_1]
      rintro _ rfl
      exact hK _ _ ⟨rfl, rfl⟩
    · obtain ⟨rfl, rfl⟩ := hI
      unfold qX2_lineOfName_L10 qX2_lineOfName_B35
      by_cases c8 : N = 8
      · subst c8
        exact ⟨fun _ => h, fun r => absurd (by decide) r⟩
      · exact ⟨fun r => absurd ((nI_le_iff (a := 8) (by decide) (by omega)).mp r) (by omega), fun _ => s2_nameOfLine (by omega) (s2_tokenIs hpa ha e3 e5 (by omega) (fun _ => z1 h) (fun z => absurd (his (by omega)) z))⟩
def st8 (l : Nat) : Nat := [0, 5, 9, 13, 17, 22, 27, 31, 35].getD l 0
theorem m4_ok : ∀ l, l < 9 → s0M 4 l = nI (st8 l) := by decide +kernel
theorem m5_ok : ∀ l, l < 8 → ∀ i, i < 5 → i < wl l → s0M 5 (st8 l + i) = wc l i := by decide +kernel
theorem st_ok : ∀ l, l < 8 → st8 (l + 1) = st8 l + wl l ∧ st8 l + wl l ≤ 35 := by decide +kernel
theorem s4_nameFlag {b : Nat → Int32} {T p a l : Nat} {τ : Mem} {post : Int32 → Mem → Prop} {K : Int32 → Mem → Prop} (ht : tapeM b T τ) (hpa : p ≤ a) (haT : a ≤ T) (e8 : τ 0 8 = nI a) (e9 : τ 0 9 = nI p) (e4 : τ 4 = s0M 4) (e5 : τ 5 = s0M 5) (hl : l < 8) (hlen : a - p = wl l) (h1 : isW b p a l → post (nI l) τ) (h0 : ¬ isW b p a l → K (nI (l + 1)) τ) : qX4_nameHere_B48 post K (nI l) 1 τ := by
  have hwl := wl_pos l hl
  have hst := st_ok l hl
  have hT := ht.1
  unfold qX4_nameHere_B48
  obtain ⟨e, he, hall, hstop⟩ : ∃ e, e ≤ wl l ∧ (∀ j, j < e → b (p + j) = wc l j) ∧ (e < wl l → ¬ b (p + e) = wc l e) := by
    by_cases c : ∀ j, j < wl l → b (p + j) = wc l j
    · exact ⟨wl l, Nat.le_refl _, c, fun z => by omega⟩
    · have : ∃ j, j < wl l ∧ ¬ b (p + j) = wc l j := by
        apply Classical.byContradiction
        intro z
        apply c
        intro j hj
        apply Classical.byContradiction
        intro y
        exact z ⟨j, hj, y⟩
      obtain ⟨k, hk, hk2⟩ := pk_least _ this
      refine ⟨k, by omega, fun j hj => ?_, fun _ => hk.2⟩
      apply Classical.byContradiction
      intro y
      exact hk2 j hj ⟨by omega, y⟩
  have b106 : ∀ f : Int32, ((f = 1 ∧ isW b p a l) ∨ (f = 0 ∧ ¬ isW b p a l)) → qX4_nameHere_B106 post K (nI l) f τ := by
    intro f hf
    unfold qX4_nameHere_B106
    rcases hf with ⟨rfl, hf⟩ | ⟨rfl, hf⟩
    · exact z1 (h1 hf)
    · refine z0 ?_
      rw [nI_1]
      rintro _ rfl
      exact h0 hf
  by_cases ce : e = wl l
  · subst ce
    have hW : isW b p a l := ⟨hlen, hall⟩
    refine it3_inv (wl l) (fun i y1 y2 y3 τ' => y1 = nI l ∧ y2 = 1 ∧ y3 = nI i ∧ τ' = τ) (fun i hi y1 y2 y3 τ' hI K' hK' => ?_) (fun y1 y2 y3 τ' hI K' => ?_) (nI l) 1 0 τ ⟨rfl, rfl, nI_0.symm, rfl⟩
    · obtain ⟨rfl, rfl, rfl, rfl⟩ := hI
      unfold qX4_nameHere_L51
      rw [e8, e9, pk_sub hpa, nI_add, nI_le_iff (by omega) (by omega)]
      refine z1 ⟨fun r => by omega, fun _ => s4_byteAt ht (by omega) ?_⟩
      rw [e4, e5, tn_nI (by omega), m4_ok l (by omega), nI_add, tn_nI (by omega), m5_ok l hl i (by omega) hi, bAt, if_pos (by omega), hall i hi]
      unfold qX4_nameHere_B99
      refine ⟨in_nI (by omega) (by decide), in_nI (by omega) (by decide), fun z => absurd rfl z, fun _ => ?_⟩
      rw [nI_1]
      rintro _ rfl
      exact hK' _ _ _ _ ⟨rfl, rfl, rfl, rfl⟩
    · obtain ⟨rfl, rfl, rfl, rfl⟩ := hI
      unfold qX4_nameHere_L51
      rw [e8, e9, pk_sub hpa, hlen]
      exact z1 ⟨fun _ => b106 1 (Or.inl ⟨rfl, hW⟩), fun r => absurd (Int32.le_refl _) r⟩
  · have hnW : ¬ isW b p a l := fun z => hstop (by omega) (z.2 e (by omega))
    refine it3_inv (e + 1) (fun i y1 y2 y3 τ' => y1 = nI l ∧ ((i ≤ e ∧ y2 = 1 ∧ y3 = nI i) ∨ (i = e + 1 ∧ y2 = 0)) ∧ τ' = τ) (fun i hi y1 y2 y3 τ' hI K' hK' => ?_) (fun y1 y2 y3 τ' hI K' => ?_) (nI l) 1 0 τ ⟨rfl, Or.inl ⟨by omega, rfl, nI_0.symm⟩, rfl⟩
    · obtain ⟨rfl, hI | hI, rfl⟩ := hI
      · obtain ⟨-, rfl, rfl⟩ := hI
        unfold qX4_nameHere_L51
        rw [e8, e9, pk_sub hpa, nI_add, nI_le_iff (by omega) (by omega)]
        refine z1 ⟨fun r => by omega, fun _ => s4_byteAt ht (by omega) ?_⟩
        rw [e4, e5, tn_nI (by omega), m4_ok l (by omega), nI_add, tn_nI (by omega), m5_ok l hl i (by omega) (by omega), bAt, if_pos (by omega)]
        unfold qX4_nameHere_B99
        refine ⟨in_nI (by omega) (by decide), in_nI (by omega) (by decide), fun z => ?_, fun z => ?_⟩
        · rw [nI_1]
          rintro _ rfl
          by_cases q : i = e
          · subst q; exact hK' _ _ _ _ ⟨rfl, Or.inr ⟨rfl, rfl⟩, rfl⟩
          · exact absurd (hall i (by omega)) z
        · rw [nI_1]
          rintro _ rfl
          by_cases q : i = e
          · subst q; exact absurd z (hstop (by omega))
          · exact hK' _ _ _ _ ⟨rfl, Or.inl ⟨by omega, rfl, rfl⟩, rfl⟩
      · omega
    · obtain ⟨rfl, hI | hI, rfl⟩ := hI
      · omega
      · obtain ⟨-, rfl⟩ := hI
        unfold qX4_nameHere_L51
        exact z0 (b106 0 (Or.inr ⟨rfl, hnW⟩))
theorem s4_nameHere {b : Nat → Int32} {T : Nat} {x : PS} {τ : Mem} {post : Int32 → Mem → Prop} (ht : tapeM b T τ) (hM : MS τ x) (h0 : x.1 = 0) (hpa : x.2.1 ≤ x.2.2.1) (haT : x.2.2.1 ≤ T) (hk : x.2.2.2.1 ≤ 3) (e4 : τ 4 = s0M 4) (e5 : τ 5 = s0M 5) (h : post (if nmk b x < 8 then nI (nmk b x) else -4) τ) : qX4_nameHere τ post := by
  obtain ⟨-, c2, -⟩ := hM
  obtain ⟨e9, e8, e10, -⟩ := c2 h0
  have hT := ht.1
  have i10 : τ 0 10 = 1 ↔ x.2.2.2.1 = 1 := by
    rw [e10]
    exact nI_eq_iff (b := 1) (by omega) (by decide)
  unfold qX4_nameHere
  unfold nmk at h
  by_cases c : x.2.2.2.1 = 1
  · rw [if_pos c] at h
    have hN := nm_le b x.2.1 x.2.2.1
    have hno := fun j (hj : j < nm b x.2.1 x.2.2.1) => nm_no b x.2.1 x.2.2.1 hj
    have his := nm_is b x.2.1 x.2.2.1
    generalize nm b x.2.1 x.2.2.1 = N at *
    have wrong : ∀ (l : Nat) (K : Int32 → Mem → Prop), l < 8 → ¬ x.2.2.1 - x.2.1 = wl l → K (nI (l + 1)) τ → qX4_nameHere_B48 post K (nI l) 0 τ := by
      intro l K hl hne hK
      unfold qX4_nameHere_B48
      refine ⟨1, ?_⟩
      show qX4_nameHere_L51 post K _ (nI l) 0 0 τ
      unfold qX4_nameHere_L51 qX4_nameHere_B106
      refine z0 (z0 ?_)
      rw [nI_1]
      rintro _ rfl
      exact hK
    have one : ∀ (l : Nat) (K : Int32 → Mem → Prop), l < 8 → (isW b x.2.1 x.2.2.1 l → post (nI l) τ) → (¬ isW b x.2.1 x.2.2.1 l → K (nI (l + 1)) τ) → qX4_nameHere_L2 post K (nI l) τ := by
      intro l K hl k1 k0
      have hwl := wl_pos l hl
      have hst := st_ok l hl
      unfold qX4_nameHere_L2
      rw [e8, e9, e4, pk_sub hpa, nI_1, tn_nI (by omega), tn_nI (by omega), m4_ok l (by omega), m4_ok (l + 1) (by omega), hst.1, pk_sub (by omega), Nat.add_sub_cancel_left]
      refine ⟨fun r => absurd ((nI_le_iff (a := 8) (by decide) (by omega)).mp r) (by omega), fun _ => ⟨fun r => absurd (i10.mpr c) r, fun _ => ⟨in_nI (by omega) (by decide), in_nI (by omega) (by decide), fun r => ?_, fun r => ?_⟩⟩⟩
      · rw [nI_eq_iff (by omega) (by omega)] at r
        exact wrong l K hl r (k0 (fun z => r z.1))
      · rw [nI_eq_iff (by omega) (by omega)] at r
        exact s4_nameFlag ht hpa haT e8 e9 e4 e5 hl r k1 k0
    refine it1_inv N (fun j y τ' => y = nI j ∧ τ' = τ) (fun j hj y τ' hI K hK => ?_) (fun y τ' hI K => ?_) 0 τ ⟨nI_0.symm, rfl⟩
    · obtain ⟨rfl, rfl⟩ := hI
      exact one j K (by omega) (fun z => absurd z (hno j hj)) (fun _ => hK _ _ ⟨rfl, rfl⟩)
    · obtain ⟨rfl, rfl⟩ := hI
      by_cases c8 : N = 8
      · subst c8
        unfold qX4_nameHere_L2 qX4_nameHere_B118
        rw [if_neg (by decide)] at h
        exact ⟨fun _ => h, fun r => absurd (by decide) r⟩
      · rw [if_pos (by omega)] at h
        exact one N K (by omega) (fun _ => h) (fun z => absurd (his (by omega)) z)
  · rw [if_neg c, if_neg (by decide)] at h
    refine ⟨1, ?_⟩
    show qX4_nameHere_L2 post _ 0 τ
    unfold qX4_nameHere_L2 qX4_nameHere_B118
    exact ⟨fun r => absurd r (by decide), fun _ => ⟨fun _ => h, fun r => absurd (i10.mp r) c⟩⟩
