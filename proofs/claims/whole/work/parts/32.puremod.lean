/-! PURE, 3: the reference, its pages -/
theorem ix4 (p : Nat) : nI p + (4 : Int32) = nI (p + 4) := by rw [show (4 : Int32) = nI 4 from rfl, nI_add]
theorem ix8 (p : Nat) : nI p + (8 : Int32) = nI (p + 8) := by rw [show (8 : Int32) = nI 8 from rfl, nI_add]
theorem ix12 (p : Nat) : nI p + (12 : Int32) = nI (p + 12) := by rw [show (12 : Int32) = nI 12 from rfl, nI_add]
theorem ix16 (p : Nat) : nI p + (16 : Int32) = nI (p + 16) := by rw [show (16 : Int32) = nI 16 from rfl, nI_add]
theorem ix17 (p : Nat) : nI p + (17 : Int32) = nI (p + 17) := by rw [show (17 : Int32) = nI 17 from rfl, nI_add]
theorem ix33 (p : Nat) : nI p + (33 : Int32) = nI (p + 33) := by rw [show (33 : Int32) = nI 33 from rfl, nI_add]
theorem ix34 (p : Nat) : nI p + (34 : Int32) = nI (p + 34) := by rw [show (34 : Int32) = nI 34 from rfl, nI_add]
theorem ix35 (p : Nat) : nI p + (35 : Int32) = nI (p + 35) := by rw [show (35 : Int32) = nI 35 from rfl, nI_add]
theorem ix36 (p : Nat) : nI p + (36 : Int32) = nI (p + 36) := by rw [show (36 : Int32) = nI 36 from rfl, nI_add]
theorem ix37 (p : Nat) : nI p + (37 : Int32) = nI (p + 37) := by rw [show (37 : Int32) = nI 37 from rfl, nI_add]
theorem ix38 (p : Nat) : nI p + (38 : Int32) = nI (p + 38) := by rw [show (38 : Int32) = nI 38 from rfl, nI_add]
theorem jx4 (p : Nat) : (4 : Int32) + nI p = nI (4 + p) := by rw [show (4 : Int32) = nI 4 from rfl, nI_add]
theorem jx8 (p : Nat) : (8 : Int32) + nI p = nI (8 + p) := by rw [show (8 : Int32) = nI 8 from rfl, nI_add]
theorem jx12 (p : Nat) : (12 : Int32) + nI p = nI (12 + p) := by rw [show (12 : Int32) = nI 12 from rfl, nI_add]
theorem jx17 (p : Nat) : (17 : Int32) + nI p = nI (17 + p) := by rw [show (17 : Int32) = nI 17 from rfl, nI_add]
theorem jx168 (p : Nat) : (168 : Int32) + nI p = nI (168 + p) := by rw [show (168 : Int32) = nI 168 from rfl, nI_add]
theorem jx195 (p : Nat) : (195 : Int32) + nI p = nI (195 + p) := by rw [show (195 : Int32) = nI 195 from rfl, nI_add]
theorem jx203 (p : Nat) : (203 : Int32) + nI p = nI (203 + p) := by rw [show (203 : Int32) = nI 203 from rfl, nI_add]
theorem jx212 (p : Nat) : (212 : Int32) + nI p = nI (212 + p) := by rw [show (212 : Int32) = nI 212 from rfl, nI_add]
theorem tl0 : (0 : Int32).toNatClampNeg = 0 := rfl
theorem tl1 : (1 : Int32).toNatClampNeg = 1 := rfl
theorem tl16 : (16 : Int32).toNatClampNeg = 16 := rfl
theorem tl33 : (33 : Int32).toNatClampNeg = 33 := rfl
theorem tl34 : (34 : Int32).toNatClampNeg = 34 := rfl
theorem tl35 : (35 : Int32).toNatClampNeg = 35 := rfl
theorem tl36 : (36 : Int32).toNatClampNeg = 36 := rfl
theorem tl37 : (37 : Int32).toNatClampNeg = 37 := rfl
theorem tl38 : (38 : Int32).toNatClampNeg = 38 := rfl
theorem tl191 : (191 : Int32).toNatClampNeg = 191 := rfl
theorem tl193 : (193 : Int32).toNatClampNeg = 193 := rfl
theorem tl194 : (194 : Int32).toNatClampNeg = 194 := rfl
theorem vl16_234 : vp_in (16 : Int32) 234 := in_nI (n := 16) (by decide) (by decide)
theorem vl33_234 : vp_in (33 : Int32) 234 := in_nI (n := 33) (by decide) (by decide)
theorem vl34_234 : vp_in (34 : Int32) 234 := in_nI (n := 34) (by decide) (by decide)
theorem vl35_234 : vp_in (35 : Int32) 234 := in_nI (n := 35) (by decide) (by decide)
theorem vl36_234 : vp_in (36 : Int32) 234 := in_nI (n := 36) (by decide) (by decide)
theorem vl37_234 : vp_in (37 : Int32) 234 := in_nI (n := 37) (by decide) (by decide)
theorem vl38_234 : vp_in (38 : Int32) 234 := in_nI (n := 38) (by decide) (by decide)
theorem vl191_234 : vp_in (191 : Int32) 234 := in_nI (n := 191) (by decide) (by decide)
theorem vl193_234 : vp_in (193 : Int32) 234 := in_nI (n := 193) (by decide) (by decide)
theorem vl194_234 : vp_in (194 : Int32) 234 := in_nI (n := 194) (by decide) (by decide)
theorem vl16_39 : vp_in (16 : Int32) 39 := in_nI (n := 16) (by decide) (by decide)
theorem vl33_39 : vp_in (33 : Int32) 39 := in_nI (n := 33) (by decide) (by decide)
theorem vl34_39 : vp_in (34 : Int32) 39 := in_nI (n := 34) (by decide) (by decide)
theorem vl0_2 : vp_in (0 : Int32) 2 := in_nI (n := 0) (by decide) (by decide)
theorem vl1_2 : vp_in (1 : Int32) 2 := in_nI (n := 1) (by decide) (by decide)
theorem lg_lt0 (x y : Int64) : lg_cmp x y < 0 ↔ x < y := by
  rw [← i32_nle]
  have := lg_cmp_ge x y
  rw [this]
  rw [Int64.lt_iff_toInt_lt, Int64.le_iff_toInt_le]
  omega
theorem lg_gt0 (x y : Int64) : 0 < lg_cmp x y ↔ y < x := by
  unfold lg_cmp
  rw [Int64.lt_iff_toInt_lt]
  by_cases h : y.toInt < x.toInt
  · rw [if_pos (Int64.lt_iff_toInt_lt.mpr h)]
    exact ⟨fun _ => h, fun _ => by decide⟩
  · rw [if_neg (fun z => h (Int64.lt_iff_toInt_lt.mp z))]
    refine ⟨fun z => ?_, fun z => absurd z h⟩
    by_cases e : x = y
    · rw [if_pos e] at z; exact absurd z (by decide)
    · rw [if_neg e] at z; exact absurd z (by decide)
theorem wide_lt (a b : Int32) : a.toInt64 < b.toInt64 ↔ a < b := by
  rw [Int64.lt_iff_toInt_lt, i32_lt, Int32.toInt_toInt64, Int32.toInt_toInt64]
/-- in(v, low, high) -/
theorem s4_in {x lo hi : Int32} {L H : Int64} {σ : Mem} {post : Int32 → Mem → Prop} (hL : L = lo.toInt64) (hH : H = hi.toInt64) (h1 : ¬ x < lo → ¬ hi < x → post 1 σ) (h0 : (x < lo ∨ hi < x) → post 0 σ) : qX4_in x.toInt64 L H σ post := by
  unfold qX4_in qX4_in_B17 qX4_in_B18
  rw [lg_lt0, lg_gt0, hL, hH, wide_lt, wide_lt]
  exact ⟨fun c => ⟨isB_0, h0 (Or.inl c)⟩, fun c => ⟨fun d => ⟨isB_0, h0 (Or.inr d)⟩, fun d => ⟨isB_1, h1 c d⟩⟩⟩
theorem s3_within {x lo hi : Int32} {σ : Mem} {post : Int32 → Mem → Prop} (h1 : ¬ x < lo → ¬ hi < x → post 1 σ) (h0 : (x < lo ∨ hi < x) → post 0 σ) : qX3_within x lo hi σ post := by
  unfold qX3_within qX3_within_B14 qX3_within_B15
  exact ⟨fun c => ⟨isB_0, h0 (Or.inl c)⟩, fun c => ⟨fun d => ⟨isB_0, h0 (Or.inr d)⟩, fun d => ⟨isB_1, h1 c d⟩⟩⟩
/-- page p of the reference is the rig ρ, done and lack counted from d, l -/
def Sm (p W A : Nat) (τ ρ : Mem) (d l : Int32) : Prop :=
  τ 1 (p + 34) + 5 = ρ 0 0 ∧ τ 1 (p + 35) = ρ 0 1 ∧ τ 1 (p + 16) = ρ 0 2 ∧ τ 1 (p + 33) = ρ 0 7 ∧ τ 1 (p + 36) = ρ 0 9 ∧ τ 1 (p + 37) = ρ 0 10 + d ∧ τ 1 (p + 38) = ρ 0 11 + l ∧ (∀ i, i < W → τ 1 (p + i) = ρ 1 i ∧ τ 1 (p + 4 + i) = ρ 2 i ∧ τ 1 (p + 8 + i) = ρ 3 i ∧ τ 1 (p + 12 + i) = ρ 4 i) ∧ (∀ i, i < A → τ 1 (p + 17 + i) = ρ 5 i)
/-- outside page p nothing changes, but for what was taken and the fastest -/
def Fm (p : Nat) (τ τ' : Mem) : Prop := (∀ c, c ≠ 0 → c ≠ 1 → τ' c = τ c) ∧ (∀ k, k ≠ 16 → k ≠ 17 → τ' 0 k = τ 0 k) ∧ (∀ k, (k < p ∨ p + 39 ≤ k) → τ' 1 k = τ 1 k)
theorem Fm.rf {p : Nat} {τ : Mem} : Fm p τ τ := ⟨fun _ _ _ => rfl, fun _ _ _ => rfl, fun _ _ => rfl⟩
theorem Fm.tr {p : Nat} {a b c : Mem} (h : Fm p a b) (g : Fm p b c) : Fm p a c := ⟨fun k h0 h1 => (g.1 k h0 h1).trans (h.1 k h0 h1), fun k h0 h1 => (g.2.1 k h0 h1).trans (h.2.1 k h0 h1), fun k hk => (g.2.2 k hk).trans (h.2.2 k hk)⟩
theorem Fm.up {p : Nat} {τ τ' : Mem} (h : Fm p τ τ') {k : Nat} (h1 : p ≤ k) (h2 : k < p + 39) (v : Int32) : Fm p τ (up2 τ' 1 k v) := ⟨fun c h0 h1 => by rw [rd_c h1]; exact h.1 c h0 h1, fun j a b => by rw [rd_cj (by decide)]; exact h.2.1 j a b, fun j hj => by rw [rd_ne (by omega)]; exact h.2.2 j hj⟩
theorem Fm.up0 {p : Nat} {τ τ' : Mem} (h : Fm p τ τ') {k : Nat} (hk : k = 16 ∨ k = 17) (v : Int32) : Fm p τ (up2 τ' 0 k v) := ⟨fun c h0 h1 => by rw [rd_c h0]; exact h.1 c h0 h1, fun j a b => by rw [rd_ne (by omega)]; exact h.2.1 j a b, fun j hj => by rw [rd_cj (by decide)]; exact h.2.2 j hj⟩
section SM
variable {p W A : Nat} {τ ρ : Mem} {d l : Int32}
theorem Sm.ss (h : Sm p W A τ ρ d l) (hW : W ≤ 4) (hA : A ≤ 16) (x : Int32) : Sm p W A (up2 τ 1 (p + 35) x) (up2 ρ 0 1 x) d l := by
  obtain ⟨h1, h2, h3, h4, h5, h6, h7, h8, h9⟩ := h
  refine ⟨?_, ?_, ?_, ?_, ?_, ?_, ?_, fun i hi => ?_, fun i hi => ?_⟩
  · rw [rd_ne (by omega), rd_ne (by decide)]; exact h1
  · rw [rd_eq, rd_eq]
  · rw [rd_ne (by omega), rd_ne (by decide)]; exact h3
  · rw [rd_ne (by omega), rd_ne (by decide)]; exact h4
  · rw [rd_ne (by omega), rd_ne (by decide)]; exact h5
  · rw [rd_ne (by omega), rd_ne (by decide)]; exact h6
  · rw [rd_ne (by omega), rd_ne (by decide)]; exact h7
  · rw [rd_ne (by omega), rd_ne (by omega), rd_ne (by omega), rd_ne (by omega), rd_c (by decide), rd_c (by decide), rd_c (by decide), rd_c (by decide)]; exact h8 i hi
  · rw [rd_ne (by omega), rd_c (by decide)]; exact h9 i hi
theorem Sm.dn (h : Sm p W A τ ρ d l) (hW : W ≤ 4) (hA : A ≤ 16) {x y : Int32} (e : x = y + d) : Sm p W A (up2 τ 1 (p + 37) x) (up2 ρ 0 10 y) d l := by
  obtain ⟨h1, h2, h3, h4, h5, h6, h7, h8, h9⟩ := h
  refine ⟨?_, ?_, ?_, ?_, ?_, ?_, ?_, fun i hi => ?_, fun i hi => ?_⟩
  · rw [rd_ne (by omega), rd_ne (by decide)]; exact h1
  · rw [rd_ne (by omega), rd_ne (by decide)]; exact h2
  · rw [rd_ne (by omega), rd_ne (by decide)]; exact h3
  · rw [rd_ne (by omega), rd_ne (by decide)]; exact h4
  · rw [rd_ne (by omega), rd_ne (by decide)]; exact h5
  · rw [rd_eq, rd_eq]; exact e
  · rw [rd_ne (by omega), rd_ne (by decide)]; exact h7
  · rw [rd_ne (by omega), rd_ne (by omega), rd_ne (by omega), rd_ne (by omega), rd_c (by decide), rd_c (by decide), rd_c (by decide), rd_c (by decide)]; exact h8 i hi
  · rw [rd_ne (by omega), rd_c (by decide)]; exact h9 i hi
theorem Sm.lk (h : Sm p W A τ ρ d l) (hW : W ≤ 4) (hA : A ≤ 16) {x y : Int32} (e : x = y + l) : Sm p W A (up2 τ 1 (p + 38) x) (up2 ρ 0 11 y) d l := by
  obtain ⟨h1, h2, h3, h4, h5, h6, h7, h8, h9⟩ := h
  refine ⟨?_, ?_, ?_, ?_, ?_, ?_, ?_, fun i hi => ?_, fun i hi => ?_⟩
  · rw [rd_ne (by omega), rd_ne (by decide)]; exact h1
  · rw [rd_ne (by omega), rd_ne (by decide)]; exact h2
  · rw [rd_ne (by omega), rd_ne (by decide)]; exact h3
  · rw [rd_ne (by omega), rd_ne (by decide)]; exact h4
  · rw [rd_ne (by omega), rd_ne (by decide)]; exact h5
  · rw [rd_ne (by omega), rd_ne (by decide)]; exact h6
  · rw [rd_eq, rd_eq]; exact e
  · rw [rd_ne (by omega), rd_ne (by omega), rd_ne (by omega), rd_ne (by omega), rd_c (by decide), rd_c (by decide), rd_c (by decide), rd_c (by decide)]; exact h8 i hi
  · rw [rd_ne (by omega), rd_c (by decide)]; exact h9 i hi
theorem Sm.tk (h : Sm p W A τ ρ d l) (hW : W ≤ 4) (hA : A ≤ 16) (x : Int32) : Sm p W A (up2 τ 1 (p + 36) x) (up2 ρ 0 9 x) d l := by
  obtain ⟨h1, h2, h3, h4, h5, h6, h7, h8, h9⟩ := h
  refine ⟨?_, ?_, ?_, ?_, ?_, ?_, ?_, fun i hi => ?_, fun i hi => ?_⟩
  · rw [rd_ne (by omega), rd_ne (by decide)]; exact h1
  · rw [rd_ne (by omega), rd_ne (by decide)]; exact h2
  · rw [rd_ne (by omega), rd_ne (by decide)]; exact h3
  · rw [rd_ne (by omega), rd_ne (by decide)]; exact h4
  · rw [rd_eq, rd_eq]
  · rw [rd_ne (by omega), rd_ne (by decide)]; exact h6
  · rw [rd_ne (by omega), rd_ne (by decide)]; exact h7
  · rw [rd_ne (by omega), rd_ne (by omega), rd_ne (by omega), rd_ne (by omega), rd_c (by decide), rd_c (by decide), rd_c (by decide), rd_c (by decide)]; exact h8 i hi
  · rw [rd_ne (by omega), rd_c (by decide)]; exact h9 i hi
theorem Sm.sw (h : Sm p W A τ ρ d l) (hW : W ≤ 4) (hA : A ≤ 16) {w : Nat} (hw : w < 4) (x : Int32) : Sm p W A (up2 τ 1 (p + 12 + w) x) (up2 ρ 4 w x) d l := by
  obtain ⟨h1, h2, h3, h4, h5, h6, h7, h8, h9⟩ := h
  refine ⟨?_, ?_, ?_, ?_, ?_, ?_, ?_, fun i hi => ?_, fun i hi => ?_⟩
  · rw [rd_ne (by omega), rd_cj (by decide)]; exact h1
  · rw [rd_ne (by omega), rd_cj (by decide)]; exact h2
  · rw [rd_ne (by omega), rd_cj (by decide)]; exact h3
  · rw [rd_ne (by omega), rd_cj (by decide)]; exact h4
  · rw [rd_ne (by omega), rd_cj (by decide)]; exact h5
  · rw [rd_ne (by omega), rd_cj (by decide)]; exact h6
  · rw [rd_ne (by omega), rd_cj (by decide)]; exact h7
  · obtain ⟨g1, g2, g3, g4⟩ := h8 i hi
    refine ⟨?_, ?_, ?_, ?_⟩
    · rw [rd_ne (by omega), rd_c (by decide)]; exact g1
    · rw [rd_ne (by omega), rd_c (by decide)]; exact g2
    · rw [rd_ne (by omega), rd_c (by decide)]; exact g3
    · by_cases e : i = w
      · subst e; rw [rd_eq, rd_eq]
      · rw [rd_ne (by omega), rd_ne e]; exact g4
  · rw [rd_ne (by omega), rd_c (by decide)]; exact h9 i hi
theorem Sm.up0 (h : Sm p W A τ ρ d l) (k : Nat) (x : Int32) : Sm p W A (up2 τ 0 k x) ρ d l := by
  unfold Sm
  rw [rd_c (show (1 : Nat) ≠ 0 by decide)]
  exact h
theorem Sm.lost (h : Sm p W A τ ρ d l) (x : Int32) : Sm p W A τ (up2 ρ 0 12 x) d l := by
  unfold Sm
  rw [rd_ne (by decide), rd_ne (by decide), rd_ne (by decide), rd_ne (by decide), rd_ne (by decide), rd_ne (by decide), rd_ne (by decide), rd_c (by decide), rd_c (by decide), rd_c (by decide), rd_c (by decide), rd_c (by decide)]
  exact h
end SM
theorem nIpos {n : Nat} (h0 : 0 < n) (h : n < 2147483648) : ¬ nI n ≤ 0 := nI_nle h0 h
theorem nIne {n : Nat} (h0 : 0 < n) (h : n < 2147483648) : ¬ nI n = 0 := nI_ne0 h0 h
/-- the shaft's speed -/
theorem s4_speedOn {p W A t : Nat} {τ ρ : Mem} {d l : Int32} {post : Int32 → Mem → Prop} (hp : p ≤ 195) (hS : Sm p W A τ ρ d l) (hV : Vd W A t ρ) (h : post (quo (ρ 0 1) (ρ 0 0)) τ) : qX4_speedOn (nI p) τ post := by
  unfold qX4_speedOn
  obtain ⟨-, -, -, -, -, -, ⟨m, e, m1, m2⟩, -⟩ := hV
  rw [ix35, ix34, tn_nI (by omega), tn_nI (by omega), hS.1, hS.2.1, e]
  rw [e, quo, if_neg (nIpos (by omega) (by omega))] at h
  exact ⟨in_nI (by omega) (by decide), in_nI (by omega) (by decide), nIne (by omega) (by omega), h⟩
theorem s4_joinedOn {p W A t w : Nat} {τ ρ : Mem} {d l : Int32} {post : Int32 → Mem → Prop} (hp : p ≤ 195) (hS : Sm p W A τ ρ d l) (hV : Vd W A t ρ) (hw : w < W) (h : post (o_joined w ρ) τ) : qX4_joinedOn (nI p) (nI w) τ post := by
  unfold qX4_joinedOn qX4_joinedOn_B103 qX4_joinedOn_B128 qX4_joinedOn_B130
  obtain ⟨-, hW, -, -, -, -, ⟨m, e, m1, m2⟩, v8, -⟩ := hV
  obtain ⟨⟨k, ek, hk⟩, ⟨m', em, m3, m4⟩, -⟩ := v8 w hw
  obtain ⟨s1, s2, -, -, -, -, -, s8, -⟩ := hS
  obtain ⟨t1, t2, t3, t4⟩ := s8 w hw
  rw [nI_add, ix12, nI_add, ix4, nI_add, ix35, ix34, tn_nI (by omega), tn_nI (by omega), tn_nI (by omega), tn_nI (by omega), tn_nI (by omega), t1, t4, t2, s2]
  refine ⟨in_nI (by omega) (by decide), ?_⟩
  rintro _ rfl
  refine ⟨in_nI (by omega) (by decide), ?_⟩
  rintro _ rfl
  refine ⟨in_nI (by omega) (by decide), ?_⟩
  rintro _ rfl
  have e5 : ρ 2 w + τ 1 (p + 34) + 5 = ρ 2 w + ρ 0 0 := by rw [Int32.add_assoc, s1]
  have e6 : ρ 2 w + ρ 0 0 = nI (m' + m) := by rw [em, e, nI_add]
  refine ⟨in_nI (by omega) (by decide), in_nI (by omega) (by decide), by rw [e5, e6]; exact nIne (by omega) (by omega), ?_⟩
  have ev : o_even w ρ = (ρ 4 w + ρ 0 1) * ρ 2 w / (ρ 2 w + ρ 0 0) := by
    rw [o_even, quo, if_neg (by rw [e6]; exact nIpos (by omega) (by omega))]
  rw [e5]
  rintro y rfl
  rw [← ev]
  rw [o_joined] at h
  refine ⟨fun c => ⟨fun d1 => ?_, fun d1 => ⟨by decide, ?_⟩⟩, fun c => ?_⟩
  · rw [if_neg c, if_neg d1] at h
    by_cases k2 : ρ 1 w = 2
    · rw [if_pos k2] at h
      refine ⟨fun z => ⟨fun _ => ?_, fun z3 => absurd (k2.symm.trans z3) (by decide)⟩, fun z => ⟨fun _ => ?_, fun z3 => absurd (k2.symm.trans z3) (by decide)⟩⟩
      · rw [iMax] at h
        by_cases q : o_even w ρ < ρ 4 w
        · rw [if_pos q] at h; exact h
        · rw [if_neg q] at h
          have : o_even w ρ = ρ 4 w := by rw [i32_eq]; rw [i32_lt] at q; rw [i32_le] at z; omega
          rw [this] at h; exact h
      · rw [iMax, if_neg (fun q => z (by rw [i32_lt] at q; rw [i32_le]; omega))] at h; exact h
    · rw [if_neg k2] at h
      have k3 : ρ 1 w = 3 := by
        rw [ek] at c d1 k2 ⊢
        rcases (show k = 0 ∨ k = 1 ∨ k = 2 ∨ k = 3 by omega) with rfl | rfl | rfl | rfl
        · exact absurd rfl c
        · exact absurd rfl d1
        · exact absurd rfl k2
        · rfl
      refine ⟨fun z => ⟨fun z3 => absurd k3 z3, fun _ => ⟨fun z4 => ?_, fun z4 => ?_⟩⟩, fun z => ⟨fun z3 => absurd k3 z3, fun _ => ⟨fun z4 => ?_, fun z4 => ?_⟩⟩⟩
      · have hm : iMax (o_even w ρ) (ρ 4 w) = ρ 4 w := by
          rw [iMax]
          by_cases q : o_even w ρ < ρ 4 w
          · rw [if_pos q]
          · rw [if_neg q, i32_eq]; rw [i32_lt] at q; rw [i32_le] at z; omega
        rw [hm, iMin, if_neg (fun q => by rw [i32_lt] at q; rw [i32_le] at z4; omega)] at h; exact h
      · have hm : iMax (o_even w ρ) (ρ 4 w) = ρ 4 w := by
          rw [iMax]
          by_cases q : o_even w ρ < ρ 4 w
          · rw [if_pos q]
          · rw [if_neg q, i32_eq]; rw [i32_lt] at q; rw [i32_le] at z; omega
        rw [hm, iMin, if_pos (by rw [i32_nle] at z4; exact z4)] at h; exact h
      · have hm : iMax (o_even w ρ) (ρ 4 w) = o_even w ρ := by
          rw [iMax, if_neg (fun q => z (by rw [i32_lt] at q; rw [i32_le]; omega))]
        rw [hm, iMin, if_neg (fun q => by rw [i32_lt] at q; rw [i32_le] at z4; omega)] at h; exact h
      · have hm : iMax (o_even w ρ) (ρ 4 w) = o_even w ρ := by
          rw [iMax, if_neg (fun q => z (by rw [i32_lt] at q; rw [i32_le]; omega))]
        rw [hm, iMin, if_pos (by rw [i32_nle] at z4; exact z4)] at h; exact h
  · rw [if_neg c, if_pos d1] at h; exact h
  · rw [if_pos c] at h; exact h
/-- what an act comes to: a drive that fails, a wheel taken off -/
def effA (fr fl v : Int32) : Int32 := if 100 ≤ v then (if 200 ≤ v ∧ v - 200 = fr then 0 else v) else if fl = 0 then v else 0
theorem o_perform0 (ρ : Mem) : o_perform 0 ρ = ρ := by
  rw [o_perform, if_neg (by decide), o_drive]
  have : ρ 0 1 + 0 = ρ 0 1 := Int32.add_zero _
  rw [this, up2_self]
theorem s4_actOn {p W A t x : Nat} {fl : Int32} {τ ρ : Mem} {d l : Int32} {post : Mem → Prop} (hp : p ≤ 195) (hS : Sm p W A τ ρ d l) (hV : Vd W A t ρ) (hx : x ≤ 203) (h : ∀ τ', Sm p W A τ' (o_perform (effA (τ 0 14) fl (nI x)) ρ) d l → Fm p τ τ' → τ' 0 16 = τ 0 16 → τ' 0 17 = τ 0 17 → post τ') : qX4_actOn (nI p) (nI x) fl τ post := by
  unfold qX4_actOn qX4_actOn_B66 qX4_actOn_B25 qX4_actOn_B221
  have hW := hV.2.1
  have hA := hV.2.2.2.1
  have hw : ρ 0 2 = nI W := hV.1
  rw [ix35, ix16, tn_nI (by omega), tn_nI (by omega), hS.2.1, hS.2.2.1, hw]
  have i35 : vp_in (nI (p + 35)) 234 := in_nI (by omega) (by decide)
  refine ⟨fun c => ⟨fun c2 => ⟨in_nI (by omega) (by decide), ?_⟩, fun c2 => ⟨i35, ?_⟩⟩, fun c => ⟨i35, ?_⟩⟩
  · -- join
    have hx2 : 200 ≤ x := (nI_le_iff (a := 200) (by decide) (by omega)).mp c2
    have e2 : nI x - 200 = nI (x - 200) := by rw [show (200 : Int32) = nI 200 from rfl, pk_sub hx2]
    rw [e2]
    rw [effA, if_pos c, e2] at h
    refine ⟨fun c3 => ?_, fun c3 => ⟨fun c4 => ?_, fun c4 => ?_⟩⟩
    · have c3' := (nI_le_iff (by omega) (by omega)).mp c3
      refine h τ ?_ Fm.rf rfl rfl
      by_cases q : (200 : Int32) ≤ nI x ∧ nI (x - 200) = τ 0 14
      · rw [if_pos q, o_perform0]; exact hS
      · rw [if_neg q, o_perform, if_pos c, if_pos c2, e2, if_pos (Or.inr (by rw [hw]; exact c3))]; exact hS
    · refine h τ ?_ Fm.rf rfl rfl
      rw [if_pos ⟨c2, c4⟩, o_perform0]; exact hS
    · have c3' : ¬ W ≤ x - 200 := fun q => c3 ((nI_le_iff (by omega) (by omega)).mpr q)
      rintro _ rfl
      rw [ix12, nI_add, tn_nI (by omega)]
      refine ⟨in_nI (by omega) (by decide), i35, ?_⟩
      rintro _ rfl
      refine s4_joinedOn hp hS hV (by omega) ?_
      rintro _ rfl _ rfl
      rw [if_neg (fun q => c4 q.2)] at h
      refine h _ ?_ ((Fm.rf.up (by omega) (by omega) _).up (by omega) (by omega) _) (by rw [rd_cj (by decide), rd_cj (by decide)]) (by rw [rd_cj (by decide), rd_cj (by decide)])
      rw [o_perform, if_pos c, if_pos c2, e2, hw, if_neg (by rintro (q | q); exact nI_pos (by omega) q; exact c3 q), tn_nI (by omega), o_join]
      have e4 : τ 1 (p + 12 + (x - 200)) = ρ 4 (x - 200) := (hS.2.2.2.2.2.2.2.1 (x - 200) (by omega)).2.2.2
      rw [rd_eq, e4, Int32.add_comm (ρ 4 (x - 200)) (ρ 0 1)]
      exact (hS.sw hW hA (by omega) _).ss hW hA _
  · -- load
    have hx1 : 100 ≤ x := (nI_le_iff (a := 100) (by decide) (by omega)).mp c
    have e2 : nI x - 100 = nI (x - 100) := by rw [show (100 : Int32) = nI 100 from rfl, pk_sub hx1]
    rw [effA, if_pos c, if_neg (fun q => c2 q.1), o_perform, if_pos c, if_neg c2, e2, o_load] at h
    rw [e2]
    rintro _ rfl
    rw [ix37, ix38, tn_nI (by omega), tn_nI (by omega)]
    have key : ∀ g : Int32, g = iMin (nI (x - 100)) (ρ 0 1) → (vp_in (nI (p + 35)) 234 ∧ ∀ σ81 : Mem, σ81 = up2 τ 1 (p + 35) (ρ 0 1 - g) → (vp_in (nI (p + 37)) 234 ∧ ∀ σ95 : Mem, σ95 = up2 σ81 1 (p + 37) (σ81 1 (p + 37) + g) → (vp_in (nI (p + 38)) 234 ∧ ∀ σ114 : Mem, σ114 = up2 σ95 1 (p + 38) (σ95 1 (p + 38) + (nI (x - 100) - g)) → post σ114))) := by
      intro g hg
      refine ⟨i35, ?_⟩
      rintro _ rfl
      refine ⟨in_nI (by omega) (by decide), ?_⟩
      rintro _ rfl
      refine ⟨in_nI (by omega) (by decide), ?_⟩
      rintro _ rfl
      refine h _ ?_ (((Fm.rf.up (by omega) (by omega) _).up (by omega) (by omega) _).up (by omega) (by omega) _) (by rw [rd_cj (by decide), rd_cj (by decide), rd_cj (by decide)]) (by rw [rd_cj (by decide), rd_cj (by decide), rd_cj (by decide)])
      rw [← hg]
      refine ((hS.ss hW hA _).dn hW hA ?_).lk hW hA ?_
      · rw [rd_ne (by omega), hS.2.2.2.2.2.1, Int32.add_assoc, Int32.add_assoc, Int32.add_comm d g]
      · rw [rd_ne (by omega), rd_ne (by omega), hS.2.2.2.2.2.2.1, Int32.add_assoc, Int32.add_assoc, Int32.add_comm l]
    refine ⟨fun z => key _ ?_, fun z => key _ ?_⟩
    · rw [iMin, if_neg (fun q => by rw [i32_lt] at q; rw [i32_le] at z; omega)]
    · rw [iMin, if_pos (by rw [i32_nle] at z; exact z)]
  · -- drive
    rw [effA, if_neg c] at h
    have fin : ∀ v : Int32, (∀ τ', Sm p W A τ' (o_drive v ρ) d l → Fm p τ τ' → τ' 0 16 = τ 0 16 → τ' 0 17 = τ 0 17 → post τ') → vp_in (nI (p + 35)) 234 ∧ ∀ σ26 : Mem, σ26 = up2 τ 1 (p + 35) (ρ 0 1 + v) → post σ26 := by
      intro v hv
      refine ⟨i35, ?_⟩
      rintro _ rfl
      exact hv _ (hS.ss hW hA _) (Fm.rf.up (by omega) (by omega) _) (rd_cj (by decide)) (rd_cj (by decide))
    refine ⟨fun z => fin _ ?_, fun z => fin _ ?_⟩
    · rw [if_pos z, o_perform, if_neg c] at h; exact h
    · rw [if_neg z, o_perform, if_neg (by decide)] at h; exact h
/-- what was taken, counted from e -/
def Tk (e : Int32) (τ ρ : Mem) : Prop := τ 0 16 = ρ 0 12 + e
theorem o_perf12 (v : Int32) (ρ : Mem) : o_perform v ρ 0 12 = ρ 0 12 := by
  unfold o_perform
  split
  · split
    · split
      · rfl
      · rw [o_join, rd_ne (by decide), rd_cj (by decide)]
    · rw [o_load, rd_ne (by decide), rd_ne (by decide), rd_ne (by decide)]
  · rw [o_drive, rd_ne (by decide)]
theorem s4_lossesOn {p W A t : Nat} {τ ρ : Mem} {d l : Int32} {post : Mem → Prop} (hp : p ≤ 195) (hS : Sm p W A τ ρ d l) (hV : Vd W A t ρ) (ht : t + 1 < 20000) (h : ∀ τ', Sm p W A τ' (o_tickT (o_loss W ρ)) d l → Fm p τ τ' → (∀ e, Tk e τ ρ → Tk e τ' (o_tickT (o_loss W ρ))) → τ' 0 17 = iMax (τ 0 17) (quo (o_tickT (o_loss W ρ) 0 1) (ρ 0 0)) → post τ') : qX4_lossesOn (nI p) τ post := by
  unfold qX4_lossesOn
  have hW := hV.2.1
  have hA := hV.2.2.2.1
  refine it1_inv W (fun k x τ' => x = nI k ∧ Sm p W A τ' (o_loss k ρ) d l ∧ Fm p τ τ' ∧ (∀ e, Tk e τ ρ → Tk e τ' (o_loss k ρ)) ∧ τ' 0 17 = τ 0 17) (fun k hk x τ' hI K hK => ?_) (fun x τ' hI K => ?_) 0 τ ⟨nI_0.symm, hS, Fm.rf, fun _ z => z, rfl⟩
  · obtain ⟨rfl, s, f, tk, f17⟩ := hI
    unfold qX4_lossesOn_L2 qX4_lossesOn_B52
    have w2 : τ' 1 (p + 16) = nI W := by rw [s.2.2.1, (St.loss k ρ).2.1]; exact hV.1
    obtain ⟨-, -, s3, s4⟩ := s.2.2.2.2.2.2.2.1 k hk
    rw [ix16, ix8, ix12, nI_add, nI_add, tn_nI (by omega), tn_nI (by omega), tn_nI (by omega), w2, s3, s4]
    refine ⟨in_nI (by omega) (by decide), fun z => absurd ((nI_le_iff (by omega) (by omega)).mp z) (by omega), fun _ => ⟨in_nI (by omega) (by decide), ?_⟩⟩
    rintro _ rfl
    refine ⟨in_nI (by omega) (by decide), ?_⟩
    rintro _ rfl
    have key : ∀ g : Int32, g = iMin (o_loss k ρ 3 k) (o_loss k ρ 4 k) → (vp_in (nI (p + 12 + k)) 234 ∧ ∀ σ69 : Mem, σ69 = up2 τ' 1 (p + 12 + k) (o_loss k ρ 4 k - g) → ∀ σ78 : Mem, σ78 = up2 σ69 0 16 (σ69 0 16 + g) → ∀ y2_81 : Int32, y2_81 = nI k + 1 → K y2_81 σ78) := by
      intro g hg
      refine ⟨in_nI (by omega) (by decide), ?_⟩
      rintro _ rfl _ rfl _ rfl
      refine hK _ _ ⟨nI_1 k, ?_, (f.up (by omega) (by omega) _).up0 (Or.inl rfl) _, ?_, ?_⟩
      · rw [o_loss, o_los, ← hg]
        exact ((s.sw hW hA (by omega) _).lost _).up0 _ _
      · intro e he
        have := tk e he
        unfold Tk at this ⊢
        rw [rd_eq, rd_cj (by decide), this, o_loss, o_los, rd_eq, ← hg, Int32.add_assoc, Int32.add_assoc, Int32.add_comm e g]
      · rw [rd_ne (by decide), rd_cj (by decide)]; exact f17
    refine ⟨fun z => key _ ?_, fun z => key _ ?_⟩
    · rw [iMin, if_neg (fun q => by rw [i32_lt] at q; rw [i32_le] at z; omega)]
    · rw [iMin, if_pos (by rw [i32_nle] at z; exact z)]
  · obtain ⟨rfl, s, f, tk, f17⟩ := hI
    unfold qX4_lossesOn_L2 qX4_lossesOn_B123
    have w2 : τ' 1 (p + 16) = nI W := by rw [s.2.2.1, (St.loss W ρ).2.1]; exact hV.1
    rw [ix16, ix36, tn_nI (by omega), tn_nI (by omega), w2]
    refine ⟨in_nI (by omega) (by decide), fun _ => ⟨in_nI (by omega) (by decide), ?_⟩, fun z => absurd (Int32.le_refl _) z⟩
    rintro _ rfl
    have s2 : Sm p W A (up2 τ' 1 (p + 36) (τ' 1 (p + 36) + 1)) (o_tickT (o_loss W ρ)) d l := by
      rw [o_tickT, s.2.2.2.2.1]
      exact s.tk hW hA _
    refine s4_speedOn hp s2 ((hV.st (St.loss W ρ)).tick ht) ?_
    have e0 : o_tickT (o_loss W ρ) 0 0 = ρ 0 0 := by rw [o_tickT, rd_ne (by decide), (St.loss W ρ).1]
    rw [e0, rd_cj (by decide), f17]
    have fin : ∀ v : Int32, v = iMax (τ 0 17) (quo (o_tickT (o_loss W ρ) 0 1) (ρ 0 0)) → ∀ σ123 : Mem, σ123 = up2 (up2 τ' 1 (p + 36) (τ' 1 (p + 36) + 1)) 0 17 v → post σ123 := by
      rintro v hv _ rfl
      refine h _ (s2.up0 _ _) ((f.up (by omega) (by omega) _).up0 (Or.inr rfl) _) (fun e he => ?_) (by rw [rd_eq]; exact hv)
      have := tk e he
      unfold Tk at this ⊢
      rw [rd_ne (by decide), rd_cj (by decide), this, o_tickT, rd_ne (by decide)]
    refine ⟨fun z => fin _ ?_, fun z => fin _ ?_⟩
    · rw [iMax, if_neg (fun q => by rw [i32_lt] at q; rw [i32_le] at z; omega)]
    · rw [iMax, if_pos (by rw [i32_nle] at z; exact z)]
/-- the act of a tick of the reference -/
def effT (fr om fl : Int32) (ρ : Mem) : Int32 := if ρ 0 7 ≤ 0 then 0 else if remI (ρ 0 9) (ρ 0 7) = om then 0 else effA fr fl (ρ 5 (remI (ρ 0 9) (ρ 0 7)).toNatClampNeg)
theorem s4_tickOn {p W A t : Nat} {fl : Int32} {τ ρ : Mem} {d l : Int32} {post : Mem → Prop} (hp : p ≤ 195) (hS : Sm p W A τ ρ d l) (hV : Vd W A t ρ) (ht : t + 1 < 20000) (h : ∀ τ', Sm p W A τ' (o_tickW (effT (τ 0 14) (τ 0 15) fl ρ) ρ) d l → Fm p τ τ' → (∀ e, Tk e τ ρ → Tk e τ' (o_tickW (effT (τ 0 14) (τ 0 15) fl ρ) ρ)) → τ' 0 17 = iMax (τ 0 17) (quo (o_tickW (effT (τ 0 14) (τ 0 15) fl ρ) ρ 0 1) (ρ 0 0)) → post τ') : qX4_tickOn (nI p) fl τ post := by
  unfold qX4_tickOn qX4_tickOn_B59
  obtain ⟨v1, hW, v3, hA, v5, v6, v7, v8, v9⟩ := id hV
  rw [ix33, ix36, ix17, tn_nI (by omega), tn_nI (by omega), hS.2.2.2.1, hS.2.2.2.2.1]
  have wn : (ρ 0 2).toNatClampNeg = W := by rw [v1, tn_nI (by omega)]
  refine ⟨in_nI (by omega) (by decide), ?_⟩
  rintro _ rfl
  have idle : effT (τ 0 14) (τ 0 15) fl ρ = 0 → qX4_lossesOn (nI p) τ (fun σ61 => post σ61) := by
    intro e0
    rw [e0, o_tickW, o_perform0, wn] at h
    exact s4_lossesOn hp hS hV ht h
  refine ⟨fun c => idle ?_, fun c => ?_⟩
  · rw [effT, if_pos c]
  · have hA0 : 0 < A := by
      rcases Nat.eq_zero_or_pos A with z | z
      · rw [v3, z] at c; exact absurd (Int32.le_refl 0) c
      · exact z
    have er : ρ 0 9 - ρ 0 9 / ρ 0 7 * ρ 0 7 = nI (t % A) := by rw [v3, v5]; exact remI_nI (by omega) hA0 (by omega)
    have er' : remI (ρ 0 9) (ρ 0 7) = nI (t % A) := er
    have hlt := Nat.mod_lt t hA0
    have hz : ¬ ρ 0 7 = 0 := by rw [v3]; exact nIne hA0 (by omega)
    refine ⟨in_nI (by omega) (by decide), hz, fun c2 => idle ?_, fun c2 => ⟨hz, ?_⟩⟩
    · rw [effT, if_neg c, remI, if_pos c2]
    · rw [effT, if_neg c, er', if_neg (by rw [← er]; exact c2), tn_nI (by omega)] at h
      rw [er, nI_add, tn_nI (by omega), hS.2.2.2.2.2.2.2.2 _ hlt]
      obtain ⟨x, ex, hx⟩ := v9 _ hlt
      rw [ex] at h ⊢
      refine ⟨in_nI (by omega) (by decide), s4_actOn hp hS hV hx (fun τ1 s1 f1 k16 k17 => ?_)⟩
      have e2 : o_perform (effA (τ 0 14) fl (nI x)) ρ 0 0 = ρ 0 0 := (St.perform _ ρ).1
      refine s4_lossesOn hp s1 (hV.st (St.perform _ ρ)) ht (fun τ2 s2 f2 k2 m2 => ?_)
      rw [o_tickW, wn] at h
      refine h τ2 s2 (f1.tr f2) (fun e he => k2 e ?_) (by rw [m2, k17, e2])
      unfold Tk at he ⊢
      rw [k16, o_perf12]; exact he
