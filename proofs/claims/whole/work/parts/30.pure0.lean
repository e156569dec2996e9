/-! PURE, 1: memories, loops, numbers -/
theorem rd_eq (σ : Mem) (c i : Nat) (v : Int32) : up2 σ c i v c i = v := by simp [up2, setc, upd]
theorem rd_ne {σ : Mem} {c i j : Nat} {v : Int32} (h : j ≠ i) : up2 σ c i v c j = σ c j := by simp [up2, setc, upd, h]
theorem rd_c {σ : Mem} {c c' i : Nat} {v : Int32} (h : c' ≠ c) : up2 σ c i v c' = σ c' := by simp [up2, setc, h]
theorem rd_cj {σ : Mem} {c c' i j : Nat} {v : Int32} (h : c' ≠ c) : up2 σ c i v c' j = σ c' j := by rw [rd_c h]
theorem rd_if (σ : Mem) (c i : Nat) (v : Int32) (c' j : Nat) : up2 σ c i v c' j = if c' = c ∧ j = i then v else σ c' j := by
  by_cases h : c' = c
  · subst h
    by_cases h2 : j = i
    · subst h2; simp [rd_eq]
    · simp [rd_ne h2, h2]
  · simp [rd_cj h, h]
theorem up2_comm (σ : Mem) {c i d j : Nat} (x y : Int32) (h : c ≠ d ∨ i ≠ j) : up2 (up2 σ c i x) d j y = up2 (up2 σ d j y) c i x := by
  funext k l
  simp only [rd_if]
  by_cases h1 : k = d ∧ l = j
  · by_cases h2 : k = c ∧ l = i
    · omega
    · rw [if_pos h1, if_neg h2, if_pos h1]
  · rw [if_neg h1]
    by_cases h2 : k = c ∧ l = i
    · rw [if_pos h2, if_pos h2]
    · rw [if_neg h2, if_neg h2, if_neg h1]
theorem up2_up2 (σ : Mem) (c i : Nat) (x y : Int32) : up2 (up2 σ c i x) c i y = up2 σ c i y := by
  funext k l
  simp only [rd_if]
  by_cases h1 : k = c ∧ l = i <;> simp [h1]
theorem up2_self (σ : Mem) (c i : Nat) : up2 σ c i (σ c i) = σ := by
  funext k l
  simp only [rd_if]
  by_cases h1 : k = c ∧ l = i
  · rw [if_pos h1, h1.1, h1.2]
  · rw [if_neg h1]
theorem lit_nI (n : Nat) : (OfNat.ofNat n : Int32) = nI n := rfl
theorem tn_nI {n : Nat} (h : n < 2147483648) : (nI n).toNatClampNeg = n := nI_clamp h
theorem nI_le_iff {a b : Nat} (ha : a < 2147483648) (hb : b < 2147483648) : nI a ≤ nI b ↔ a ≤ b := nI_leI ha hb
theorem nI_lt_iff {a b : Nat} (ha : a < 2147483648) (hb : b < 2147483648) : nI a < nI b ↔ a < b := nI_ltI ha hb
theorem nI_eq_iff {a b : Nat} (ha : a < 2147483648) (hb : b < 2147483648) : nI a = nI b ↔ a = b := nI_eq ha hb
theorem in_nI {n N : Nat} (h : n < N) (hN : N < 2147483648) : vp_in (nI n) N := vp_in_nI h hN
theorem i32_lt (x y : Int32) : x < y ↔ x.toInt < y.toInt := Int32.lt_iff_toInt_lt
theorem i32_le (x y : Int32) : x ≤ y ↔ x.toInt ≤ y.toInt := Int32.le_iff_toInt_le
theorem i32_eq (x y : Int32) : x = y ↔ x.toInt = y.toInt := Int32.toInt_inj.symm
theorem i32_nlt {x y : Int32} : ¬ x < y ↔ y ≤ x := by rw [i32_lt, i32_le]; omega
theorem i32_nle {x y : Int32} : ¬ x ≤ y ↔ y < x := by rw [i32_lt, i32_le]; omega
theorem i32_rng (x : Int32) : -2147483648 ≤ x.toInt ∧ x.toInt < 2147483648 := by
  have h1 := Int32.le_toInt x
  have h2 := Int32.toInt_lt x
  omega
/-- a number between two bounds is a natural one -/
theorem nat_of {x : Int32} {m : Nat} (h0 : 0 ≤ x) (h1 : x ≤ nI m) (hm : m < 2147483648) : ∃ k, k ≤ m ∧ x = nI k := by
  obtain ⟨j, hj, rfl⟩ := nI_of (x := x) (by rw [i32_nlt]; exact h0)
  exact ⟨j, (nI_le_iff hj hm).mp h1, rfl⟩

theorem it0_inv {F : (Mem → Prop) → Mem → Prop} (e : Nat) (I : Nat → Mem → Prop) (hs : ∀ k, k < e → ∀ (σ : Mem), I k  σ → ∀ K : Mem → Prop, (∀ (σ' : Mem), I (k + 1)  σ' → K  σ') → F K  σ) (hx : ∀ (σ : Mem), I e  σ → ∀ K : Mem → Prop, F K  σ) (σ : Mem) (h : I 0  σ) : ∃ n, it0 F n  σ := by
  have key : ∀ (d k : Nat), k + d = e → ∀ (σ : Mem), I k  σ → it0 F (d + 1)  σ := by
    intro d
    induction d with
    | zero =>
      intro k hk  σ hI
      have : k = e := by omega
      subst this
      exact hx  σ hI _
    | succ d ih =>
      intro k hk  σ hI
      exact hs k (by omega)  σ hI _ (fun  σ' hI' => ih (k + 1) (by omega)  σ' hI')
  exact ⟨_, key e 0 (by omega)  σ h⟩
theorem it1_inv {A1 : Type} {F : (A1 → Mem → Prop) → A1 → Mem → Prop} (e : Nat) (I : Nat → A1 → Mem → Prop) (hs : ∀ k, k < e → ∀ (a1 : A1) (σ : Mem), I k a1 σ → ∀ K : A1 → Mem → Prop, (∀ (b1 : A1) (σ' : Mem), I (k + 1) b1 σ' → K b1 σ') → F K a1 σ) (hx : ∀ (a1 : A1) (σ : Mem), I e a1 σ → ∀ K : A1 → Mem → Prop, F K a1 σ) (a1 : A1) (σ : Mem) (h : I 0 a1 σ) : ∃ n, it1 F n a1 σ := by
  have key : ∀ (d k : Nat), k + d = e → ∀ (a1 : A1) (σ : Mem), I k a1 σ → it1 F (d + 1) a1 σ := by
    intro d
    induction d with
    | zero =>
      intro k hk a1 σ hI
      have : k = e := by omega
      subst this
      exact hx a1 σ hI _
    | succ d ih =>
      intro k hk a1 σ hI
      exact hs k (by omega) a1 σ hI _ (fun b1 σ' hI' => ih (k + 1) (by omega) b1 σ' hI')
  exact ⟨_, key e 0 (by omega) a1 σ h⟩
theorem it2_inv {A1 A2 : Type} {F : (A1 → A2 → Mem → Prop) → A1 → A2 → Mem → Prop} (e : Nat) (I : Nat → A1 → A2 → Mem → Prop) (hs : ∀ k, k < e → ∀ (a1 : A1) (a2 : A2) (σ : Mem), I k a1 a2 σ → ∀ K : A1 → A2 → Mem → Prop, (∀ (b1 : A1) (b2 : A2) (σ' : Mem), I (k + 1) b1 b2 σ' → K b1 b2 σ') → F K a1 a2 σ) (hx : ∀ (a1 : A1) (a2 : A2) (σ : Mem), I e a1 a2 σ → ∀ K : A1 → A2 → Mem → Prop, F K a1 a2 σ) (a1 : A1) (a2 : A2) (σ : Mem) (h : I 0 a1 a2 σ) : ∃ n, it2 F n a1 a2 σ := by
  have key : ∀ (d k : Nat), k + d = e → ∀ (a1 : A1) (a2 : A2) (σ : Mem), I k a1 a2 σ → it2 F (d + 1) a1 a2 σ := by
    intro d
    induction d with
    | zero =>
      intro k hk a1 a2 σ hI
      have : k = e := by omega
      subst this
      exact hx a1 a2 σ hI _
    | succ d ih =>
      intro k hk a1 a2 σ hI
      exact hs k (by omega) a1 a2 σ hI _ (fun b1 b2 σ' hI' => ih (k + 1) (by omega) b1 b2 σ' hI')
  exact ⟨_, key e 0 (by omega) a1 a2 σ h⟩
theorem it3_inv {A1 A2 A3 : Type} {F : (A1 → A2 → A3 → Mem → Prop) → A1 → A2 → A3 → Mem → Prop} (e : Nat) (I : Nat → A1 → A2 → A3 → Mem → Prop) (hs : ∀ k, k < e → ∀ (a1 : A1) (a2 : A2) (a3 : A3) (σ : Mem), I k a1 a2 a3 σ → ∀ K : A1 → A2 → A3 → Mem → Prop, (∀ (b1 : A1) (b2 : A2) (b3 : A3) (σ' : Mem), I (k + 1) b1 b2 b3 σ' → K b1 b2 b3 σ') → F K a1 a2 a3 σ) (hx : ∀ (a1 : A1) (a2 : A2) (a3 : A3) (σ : Mem), I e a1 a2 a3 σ → ∀ K : A1 → A2 → A3 → Mem → Prop, F K a1 a2 a3 σ) (a1 : A1) (a2 : A2) (a3 : A3) (σ : Mem) (h : I 0 a1 a2 a3 σ) : ∃ n, it3 F n a1 a2 a3 σ := by
  have key : ∀ (d k : Nat), k + d = e → ∀ (a1 : A1) (a2 : A2) (a3 : A3) (σ : Mem), I k a1 a2 a3 σ → it3 F (d + 1) a1 a2 a3 σ := by
    intro d
    induction d with
    | zero =>
      intro k hk a1 a2 a3 σ hI
      have : k = e := by omega
      subst this
      exact hx a1 a2 a3 σ hI _
    | succ d ih =>
      intro k hk a1 a2 a3 σ hI
      exact hs k (by omega) a1 a2 a3 σ hI _ (fun b1 b2 b3 σ' hI' => ih (k + 1) (by omega) b1 b2 b3 σ' hI')
  exact ⟨_, key e 0 (by omega) a1 a2 a3 σ h⟩
theorem it4_inv {A1 A2 A3 A4 : Type} {F : (A1 → A2 → A3 → A4 → Mem → Prop) → A1 → A2 → A3 → A4 → Mem → Prop} (e : Nat) (I : Nat → A1 → A2 → A3 → A4 → Mem → Prop) (hs : ∀ k, k < e → ∀ (a1 : A1) (a2 : A2) (a3 : A3) (a4 : A4) (σ : Mem), I k a1 a2 a3 a4 σ → ∀ K : A1 → A2 → A3 → A4 → Mem → Prop, (∀ (b1 : A1) (b2 : A2) (b3 : A3) (b4 : A4) (σ' : Mem), I (k + 1) b1 b2 b3 b4 σ' → K b1 b2 b3 b4 σ') → F K a1 a2 a3 a4 σ) (hx : ∀ (a1 : A1) (a2 : A2) (a3 : A3) (a4 : A4) (σ : Mem), I e a1 a2 a3 a4 σ → ∀ K : A1 → A2 → A3 → A4 → Mem → Prop, F K a1 a2 a3 a4 σ) (a1 : A1) (a2 : A2) (a3 : A3) (a4 : A4) (σ : Mem) (h : I 0 a1 a2 a3 a4 σ) : ∃ n, it4 F n a1 a2 a3 a4 σ := by
  have key : ∀ (d k : Nat), k + d = e → ∀ (a1 : A1) (a2 : A2) (a3 : A3) (a4 : A4) (σ : Mem), I k a1 a2 a3 a4 σ → it4 F (d + 1) a1 a2 a3 a4 σ := by
    intro d
    induction d with
    | zero =>
      intro k hk a1 a2 a3 a4 σ hI
      have : k = e := by omega
      subst this
      exact hx a1 a2 a3 a4 σ hI _
    | succ d ih =>
      intro k hk a1 a2 a3 a4 σ hI
      exact hs k (by omega) a1 a2 a3 a4 σ hI _ (fun b1 b2 b3 b4 σ' hI' => ih (k + 1) (by omega) b1 b2 b3 b4 σ' hI')
  exact ⟨_, key e 0 (by omega) a1 a2 a3 a4 σ h⟩
theorem it5_inv {A1 A2 A3 A4 A5 : Type} {F : (A1 → A2 → A3 → A4 → A5 → Mem → Prop) → A1 → A2 → A3 → A4 → A5 → Mem → Prop} (e : Nat) (I : Nat → A1 → A2 → A3 → A4 → A5 → Mem → Prop) (hs : ∀ k, k < e → ∀ (a1 : A1) (a2 : A2) (a3 : A3) (a4 : A4) (a5 : A5) (σ : Mem), I k a1 a2 a3 a4 a5 σ → ∀ K : A1 → A2 → A3 → A4 → A5 → Mem → Prop, (∀ (b1 : A1) (b2 : A2) (b3 : A3) (b4 : A4) (b5 : A5) (σ' : Mem), I (k + 1) b1 b2 b3 b4 b5 σ' → K b1 b2 b3 b4 b5 σ') → F K a1 a2 a3 a4 a5 σ) (hx : ∀ (a1 : A1) (a2 : A2) (a3 : A3) (a4 : A4) (a5 : A5) (σ : Mem), I e a1 a2 a3 a4 a5 σ → ∀ K : A1 → A2 → A3 → A4 → A5 → Mem → Prop, F K a1 a2 a3 a4 a5 σ) (a1 : A1) (a2 : A2) (a3 : A3) (a4 : A4) (a5 : A5) (σ : Mem) (h : I 0 a1 a2 a3 a4 a5 σ) : ∃ n, it5 F n a1 a2 a3 a4 a5 σ := by
  have key : ∀ (d k : Nat), k + d = e → ∀ (a1 : A1) (a2 : A2) (a3 : A3) (a4 : A4) (a5 : A5) (σ : Mem), I k a1 a2 a3 a4 a5 σ → it5 F (d + 1) a1 a2 a3 a4 a5 σ := by
    intro d
    induction d with
    | zero =>
      intro k hk a1 a2 a3 a4 a5 σ hI
      have : k = e := by omega
      subst this
      exact hx a1 a2 a3 a4 a5 σ hI _
    | succ d ih =>
      intro k hk a1 a2 a3 a4 a5 σ hI
      exact hs k (by omega) a1 a2 a3 a4 a5 σ hI _ (fun b1 b2 b3 b4 b5 σ' hI' => ih (k + 1) (by omega) b1 b2 b3 b4 b5 σ' hI')
  exact ⟨_, key e 0 (by omega) a1 a2 a3 a4 a5 σ h⟩
theorem it6_inv {A1 A2 A3 A4 A5 A6 : Type} {F : (A1 → A2 → A3 → A4 → A5 → A6 → Mem → Prop) → A1 → A2 → A3 → A4 → A5 → A6 → Mem → Prop} (e : Nat) (I : Nat → A1 → A2 → A3 → A4 → A5 → A6 → Mem → Prop) (hs : ∀ k, k < e → ∀ (a1 : A1) (a2 : A2) (a3 : A3) (a4 : A4) (a5 : A5) (a6 : A6) (σ : Mem), I k a1 a2 a3 a4 a5 a6 σ → ∀ K : A1 → A2 → A3 → A4 → A5 → A6 → Mem → Prop, (∀ (b1 : A1) (b2 : A2) (b3 : A3) (b4 : A4) (b5 : A5) (b6 : A6) (σ' : Mem), I (k + 1) b1 b2 b3 b4 b5 b6 σ' → K b1 b2 b3 b4 b5 b6 σ') → F K a1 a2 a3 a4 a5 a6 σ) (hx : ∀ (a1 : A1) (a2 : A2) (a3 : A3) (a4 : A4) (a5 : A5) (a6 : A6) (σ : Mem), I e a1 a2 a3 a4 a5 a6 σ → ∀ K : A1 → A2 → A3 → A4 → A5 → A6 → Mem → Prop, F K a1 a2 a3 a4 a5 a6 σ) (a1 : A1) (a2 : A2) (a3 : A3) (a4 : A4) (a5 : A5) (a6 : A6) (σ : Mem) (h : I 0 a1 a2 a3 a4 a5 a6 σ) : ∃ n, it6 F n a1 a2 a3 a4 a5 a6 σ := by
  have key : ∀ (d k : Nat), k + d = e → ∀ (a1 : A1) (a2 : A2) (a3 : A3) (a4 : A4) (a5 : A5) (a6 : A6) (σ : Mem), I k a1 a2 a3 a4 a5 a6 σ → it6 F (d + 1) a1 a2 a3 a4 a5 a6 σ := by
    intro d
    induction d with
    | zero =>
      intro k hk a1 a2 a3 a4 a5 a6 σ hI
      have : k = e := by omega
      subst this
      exact hx a1 a2 a3 a4 a5 a6 σ hI _
    | succ d ih =>
      intro k hk a1 a2 a3 a4 a5 a6 σ hI
      exact hs k (by omega) a1 a2 a3 a4 a5 a6 σ hI _ (fun b1 b2 b3 b4 b5 b6 σ' hI' => ih (k + 1) (by omega) b1 b2 b3 b4 b5 b6 σ' hI')
  exact ⟨_, key e 0 (by omega) a1 a2 a3 a4 a5 a6 σ h⟩

/-! a rig: six cells, of which these places count -/
def rgs (i : Nat) : Bool := i == 0 || i == 1 || i == 2 || i == 7 || i == 9 || i == 10 || i == 11 || i == 12
def rgk (j i : Nat) : Bool := (j == 0 && rgs i) || (decide (1 ≤ j) && decide (j ≤ 4) && decide (i < 4)) || (j == 5 && decide (i < 16))
def rg (b : Nat) (σ : Mem) : Mem := fun j i => if rgk j i = true then σ (b + j) i else 0
theorem rg_at {b : Nat} {σ : Mem} {j i : Nat} (h : rgk j i = true) : rg b σ j i = σ (b + j) i := by simp [rg, h]
theorem rgk_a {j i : Nat} (h1 : 1 ≤ j) (h4 : j ≤ 4) (hi : i < 4) : rgk j i = true := by simp [rgk, h1, h4, hi]
theorem rgk_p {i : Nat} (hi : i < 16) : rgk 5 i = true := by simp [rgk, hi]
theorem rg_a {b : Nat} {σ : Mem} (j : Nat) {i : Nat} (h1 : 1 ≤ j) (h4 : j ≤ 4) (hi : i < 4) : rg b σ j i = σ (b + j) i := rg_at (rgk_a h1 h4 hi)
theorem rg_p {b : Nat} {σ : Mem} {i : Nat} (hi : i < 16) : rg b σ 5 i = σ (b + 5) i := rg_at (rgk_p hi)
theorem rg_s0 (b : Nat) (σ : Mem) : rg b σ 0 0 = σ b 0 := rfl
theorem rg_s1 (b : Nat) (σ : Mem) : rg b σ 0 1 = σ b 1 := rfl
theorem rg_s2 (b : Nat) (σ : Mem) : rg b σ 0 2 = σ b 2 := rfl
theorem rg_s7 (b : Nat) (σ : Mem) : rg b σ 0 7 = σ b 7 := rfl
theorem rg_s9 (b : Nat) (σ : Mem) : rg b σ 0 9 = σ b 9 := rfl
theorem rg_s10 (b : Nat) (σ : Mem) : rg b σ 0 10 = σ b 10 := rfl
theorem rg_s11 (b : Nat) (σ : Mem) : rg b σ 0 11 = σ b 11 := rfl
theorem rg_s12 (b : Nat) (σ : Mem) : rg b σ 0 12 = σ b 12 := rfl
theorem rg_up (b : Nat) (σ : Mem) (j i : Nat) (v : Int32) (h : rgk j i = true) : rg b (up2 σ (b + j) i v) = up2 (rg b σ) j i v := by
  funext k l
  rw [rd_if]
  by_cases e : k = j ∧ l = i
  · rw [if_pos e, e.1, e.2, rg_at h, rd_eq]
  · rw [if_neg e]
    unfold rg
    by_cases q : rgk k l = true
    · rw [if_pos q, if_pos q, rd_if, if_neg (by omega)]
    · rw [if_neg q, if_neg q]
theorem rg_up0 (b : Nat) (σ : Mem) (i : Nat) (v : Int32) (h : rgs i = true) : rg b (up2 σ b i v) = up2 (rg b σ) 0 i v := rg_up b σ 0 i v (by simp [rgk, h])
theorem rgk_lt {j i : Nat} (h : rgk j i = true) : j < 6 := by
  simp only [rgk, Bool.or_eq_true, Bool.and_eq_true, beq_iff_eq, decide_eq_true_eq] at h
  omega
theorem rg_ext {b b' : Nat} {σ σ' : Mem} (h : ∀ j i, rgk j i = true → σ' (b' + j) i = σ (b + j) i) : rg b' σ' = rg b σ := by
  funext k l
  unfold rg
  by_cases q : rgk k l = true
  · rw [if_pos q, if_pos q, h k l q]
  · rw [if_neg q, if_neg q]
theorem rg_out {b c : Nat} {σ : Mem} (i : Nat) (v : Int32) (h : c < b ∨ b + 6 ≤ c) : rg b (up2 σ c i v) = rg b σ := rg_ext (fun j k hk => by have := rgk_lt hk; rw [rd_cj (by omega)])
/-- outside a rig nothing changes -/
def Fc (b : Nat) (σ σ' : Mem) : Prop := ∀ c, (c < b ∨ b + 6 ≤ c) → σ' c = σ c
theorem Fc.rf {b : Nat} {σ : Mem} : Fc b σ σ := fun _ _ => rfl
theorem Fc.tr {b : Nat} {σ σ' σ'' : Mem} (h1 : Fc b σ σ') (h2 : Fc b σ' σ'') : Fc b σ σ'' := fun c hc => (h2 c hc).trans (h1 c hc)
theorem Fc.up {b : Nat} {σ σ' : Mem} (h : Fc b σ σ') {j : Nat} (hj : j < 6) (i : Nat) (v : Int32) : Fc b σ (up2 σ' (b + j) i v) := fun c hc => by rw [rd_c (by omega)]; exact h c hc
theorem Fc.up0 {b : Nat} {σ σ' : Mem} (h : Fc b σ σ') (i : Nat) (v : Int32) : Fc b σ (up2 σ' b i v) := fun c hc => by rw [rd_c (by omega)]; exact h c hc
theorem Fc.rg {b b' : Nat} {σ σ' : Mem} (h : Fc b σ σ') (hb : b' + 6 ≤ b ∨ b + 6 ≤ b') : rg b' σ' = rg b' σ := rg_ext (fun j i hj => by have := rgk_lt hj; rw [h _ (by omega)])
/-! what is done on a rig -/
def quo (x y : Int32) : Int32 := if y ≤ 0 then 0 else x / y
def remI (x y : Int32) : Int32 := x - x / y * y
def iMin (x y : Int32) : Int32 := if y < x then y else x
def iMax (x y : Int32) : Int32 := if x < y then y else x
def o_drive (v : Int32) (ρ : Mem) : Mem := up2 ρ 0 1 (ρ 0 1 + v)
def o_load (w : Int32) (ρ : Mem) : Mem := up2 (up2 (up2 ρ 0 1 (ρ 0 1 - iMin w (ρ 0 1))) 0 10 (ρ 0 10 + iMin w (ρ 0 1))) 0 11 (ρ 0 11 + (w - iMin w (ρ 0 1)))
def o_even (w : Nat) (ρ : Mem) : Int32 := quo ((ρ 4 w + ρ 0 1) * ρ 2 w) (ρ 2 w + ρ 0 0)
def o_joined (w : Nat) (ρ : Mem) : Int32 := if ρ 1 w = 0 then o_even w ρ else if ρ 1 w = 1 then ρ 4 w + (o_even w ρ - ρ 4 w) / 2 else if ρ 1 w = 2 then iMax (o_even w ρ) (ρ 4 w) else iMin (iMax (o_even w ρ) (ρ 4 w)) (ρ 4 w + 20)
def o_join (w : Nat) (ρ : Mem) : Mem := up2 (up2 ρ 4 w (o_joined w ρ)) 0 1 ((ρ 0 1 + ρ 4 w) - o_joined w ρ)
def o_perform (v : Int32) (ρ : Mem) : Mem := if 100 ≤ v then (if 200 ≤ v then (if v - 200 < 0 ∨ ρ 0 2 ≤ v - 200 then ρ else o_join (v - 200).toNatClampNeg ρ) else o_load (v - 100) ρ) else o_drive v ρ
def o_los (k : Nat) (ρ : Mem) : Mem := up2 (up2 ρ 4 k (ρ 4 k - iMin (ρ 3 k) (ρ 4 k))) 0 12 (ρ 0 12 + iMin (ρ 3 k) (ρ 4 k))
def o_loss : Nat → Mem → Mem
  | 0, ρ => ρ
  | k + 1, ρ => o_los k (o_loss k ρ)
def o_tickT (ρ : Mem) : Mem := up2 ρ 0 9 (ρ 0 9 + 1)
def o_tickW (v : Int32) (ρ : Mem) : Mem := o_tickT (o_loss (ρ 0 2).toNatClampNeg (o_perform v ρ))
def o_num (ρ : Mem) : Int32 := if ρ 0 7 ≤ 0 then 0 else remI (ρ 0 9) (ρ 0 7)
def o_due (ρ : Mem) : Int32 := if ρ 0 7 ≤ 0 then 0 else ρ 5 (remI (ρ 0 9) (ρ 0 7)).toNatClampNeg
def o_tick (ρ : Mem) : Mem := o_tickW (o_due ρ) ρ
def o_run : Nat → Mem → Mem
  | 0, ρ => ρ
  | n + 1, ρ => o_tick (o_run n ρ)
/-- what an act and losses leave alone -/
def St (ρ ρ' : Mem) : Prop := ρ' 0 0 = ρ 0 0 ∧ ρ' 0 2 = ρ 0 2 ∧ ρ' 0 7 = ρ 0 7 ∧ ρ' 0 9 = ρ 0 9 ∧ ρ' 1 = ρ 1 ∧ ρ' 2 = ρ 2 ∧ ρ' 3 = ρ 3 ∧ ρ' 5 = ρ 5
theorem St.rf (ρ : Mem) : St ρ ρ := ⟨rfl, rfl, rfl, rfl, rfl, rfl, rfl, rfl⟩
theorem St.tr {a b c : Mem} (h : St a b) (g : St b c) : St a c := ⟨g.1.trans h.1, g.2.1.trans h.2.1, g.2.2.1.trans h.2.2.1, g.2.2.2.1.trans h.2.2.2.1, g.2.2.2.2.1.trans h.2.2.2.2.1, g.2.2.2.2.2.1.trans h.2.2.2.2.2.1, g.2.2.2.2.2.2.1.trans h.2.2.2.2.2.2.1, g.2.2.2.2.2.2.2.trans h.2.2.2.2.2.2.2⟩
theorem St.up1 (ρ : Mem) (v : Int32) : St ρ (up2 ρ 0 1 v) := ⟨rd_ne (by decide), rd_ne (by decide), rd_ne (by decide), rd_ne (by decide), rd_c (by decide), rd_c (by decide), rd_c (by decide), rd_c (by decide)⟩
theorem St.up10 (ρ : Mem) (v : Int32) : St ρ (up2 ρ 0 10 v) := ⟨rd_ne (by decide), rd_ne (by decide), rd_ne (by decide), rd_ne (by decide), rd_c (by decide), rd_c (by decide), rd_c (by decide), rd_c (by decide)⟩
theorem St.up11 (ρ : Mem) (v : Int32) : St ρ (up2 ρ 0 11 v) := ⟨rd_ne (by decide), rd_ne (by decide), rd_ne (by decide), rd_ne (by decide), rd_c (by decide), rd_c (by decide), rd_c (by decide), rd_c (by decide)⟩
theorem St.up12 (ρ : Mem) (v : Int32) : St ρ (up2 ρ 0 12 v) := ⟨rd_ne (by decide), rd_ne (by decide), rd_ne (by decide), rd_ne (by decide), rd_c (by decide), rd_c (by decide), rd_c (by decide), rd_c (by decide)⟩
theorem St.up4 (ρ : Mem) (w : Nat) (v : Int32) : St ρ (up2 ρ 4 w v) := ⟨rd_cj (by decide), rd_cj (by decide), rd_cj (by decide), rd_cj (by decide), rd_c (by decide), rd_c (by decide), rd_c (by decide), rd_c (by decide)⟩
theorem St.load (w : Int32) (ρ : Mem) : St ρ (o_load w ρ) := ((St.up1 ρ _).tr (St.up10 _ _)).tr (St.up11 _ _)
theorem St.join (w : Nat) (ρ : Mem) : St ρ (o_join w ρ) := (St.up4 ρ w _).tr (St.up1 _ _)
theorem St.perform (v : Int32) (ρ : Mem) : St ρ (o_perform v ρ) := by
  unfold o_perform
  split
  · split
    · split
      · exact St.rf ρ
      · exact St.join _ ρ
    · exact St.load _ ρ
  · exact St.up1 ρ _
theorem St.los (k : Nat) (ρ : Mem) : St ρ (o_los k ρ) := (St.up4 ρ k _).tr (St.up12 _ _)
theorem St.loss (k : Nat) (ρ : Mem) : St ρ (o_loss k ρ) := by
  induction k with
  | zero => exact St.rf ρ
  | succ k ih => exact ih.tr (St.los k _)
theorem St.lp (k : Nat) (v : Int32) (ρ : Mem) : St ρ (o_loss k (o_perform v ρ)) := (St.perform v ρ).tr (St.loss k _)
/-- a rig whose numbers are as told -/
def Vd (W A t : Nat) (ρ : Mem) : Prop := ρ 0 2 = nI W ∧ W ≤ 4 ∧ ρ 0 7 = nI A ∧ A ≤ 16 ∧ ρ 0 9 = nI t ∧ t < 20000 ∧ (∃ m, ρ 0 0 = nI m ∧ 1 ≤ m ∧ m ≤ 20) ∧ (∀ i, i < W → (∃ k, ρ 1 i = nI k ∧ k ≤ 3) ∧ (∃ m, ρ 2 i = nI m ∧ 1 ≤ m ∧ m ≤ 20) ∧ (∃ k, ρ 3 i = nI k ∧ k ≤ 9)) ∧ (∀ i, i < A → ∃ v, ρ 5 i = nI v ∧ v ≤ 203)
theorem Vd.st {W A t : Nat} {ρ ρ' : Mem} (h : Vd W A t ρ) (g : St ρ ρ') : Vd W A t ρ' := by
  obtain ⟨g1, g2, g3, g4, g5, g6, g7, g8⟩ := g
  unfold Vd
  rw [g1, g2, g3, g4, g5, g6, g7, g8]
  exact h
theorem Vd.tick {W A t : Nat} {ρ : Mem} (h : Vd W A t ρ) (ht : t + 1 < 20000) : Vd W A (t + 1) (o_tickT ρ) := by
  obtain ⟨h1, h2, h3, h4, h5, h6, h7, h8, h9⟩ := h
  unfold Vd o_tickT
  rw [rd_ne (by decide), rd_ne (by decide), rd_eq, rd_ne (by decide), rd_c (by decide), rd_c (by decide), rd_c (by decide), rd_c (by decide)]
  exact ⟨h1, h2, h3, h4, by rw [h5]; exact nI_1 t, ht, h7, h8, h9⟩
theorem Vd.tickW {W A t : Nat} {ρ : Mem} (h : Vd W A t ρ) (v : Int32) (ht : t + 1 < 20000) : Vd W A (t + 1) (o_tickW v ρ) := (h.st (St.lp _ v ρ)).tick ht
theorem Vd.run {W A t : Nat} {ρ : Mem} (h : Vd W A t ρ) : ∀ n, t + n < 20000 → Vd W A (t + n) (o_run n ρ)
  | 0, _ => h
  | n + 1, hn => (Vd.run h n (by omega)).tickW _ (by omega)
theorem remI_nI {t A : Nat} (ht : t < 2147483648) (h0 : 0 < A) (hA : A < 2147483648) : remI (nI t) (nI A) = nI (t % A) := pk_rem ht h0 hA
