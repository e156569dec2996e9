/-! PURE, 23: the class takes a line -/
def CR (T : Nat) (σ0 σ : Mem) (y : LnS) : Prop := CS σ y.1 ∧ σ 33 1 = nI T ∧ (σ 33 7 = if y.2.1 = true then 1 else 0) ∧ rg 13 σ = y.2.2 ∧ (∀ c, c ≠ 33 → (c < 13 ∨ 19 ≤ c) → σ c = σ0 c)
theorem CR.fk {T : Nat} {σ0 σ σ' : Mem} {y : LnS} {x : PS} (h : CR T σ0 σ y) (f : Fk σ σ') (c : CS σ' x) : CR T σ0 σ' (x, y.2) := by
  obtain ⟨-, h2, h3, h4, h5⟩ := h
  refine ⟨c, by rw [f.2.1]; exact h2, by rw [f.2.2]; exact h3, ?_, fun k hk hk2 => by rw [f.1 k hk]; exact h5 k hk hk2⟩
  have : rg 13 σ' = rg 13 σ := rg_ext (fun j i hj => by have := rgk_lt hj; rw [f.1 _ (by omega)])
  rw [this]
  exact h4
theorem CS.rig {σ σ' : Mem} {x : PS} (h : CS σ x) (f : Fc 13 σ σ') : CS σ' x := by
  unfold CS
  rw [f 33 (by decide)]
  exact h
theorem s2_takeLine {T : Nat} {σ0 σ : Mem} {y : LnS} {post : Mem → Prop} (hT : T ≤ 160) (hR : CR T σ0 σ y) (hV : VR T y) (h0 : y.1.1 = 0) (h : ∀ σ', CR T σ0 σ' (lnF (σ0 34) T y) → post σ') : qX2_takeLine 13 σ post := by
  obtain ⟨ok, W, A, v, bd⟩ := hV
  have hR' := hR
  obtain ⟨cs, e1, e7, er, fr⟩ := hR
  have e34 : σ 34 = σ0 34 := fr 34 (by decide) (by decide)
  have okp := ok.2.2 h0
  have hN := nmk_le (σ0 34) y.1
  have hW := v.2.1
  have hA := v.2.2.2.1
  have ew : σ 13 2 = nI W := by
    have q := v.1
    rw [← er] at q
    exact q
  have ea : σ 13 7 = nI A := by
    have q := v.2.2.1
    rw [← er] at q
    exact q
  have w2 : ∀ (c : Nat), 1 ≤ c → CR T σ0 (up2 σ 33 2 (nI c)) (wr c y.1, y.2) := fun c hc => hR'.fk (Fk.rf.up2 _) (cs.wr hc)
  unfold qX2_takeLine
  refine s2_lineOfName cs h0 okp.1 (by omega) okp.2.2.1 ?_
  rw [e34]
  unfold lnF at h
  generalize hNN : nmk (σ0 34) y.1 = N at *
  have i8 : nI N = 8 ↔ N = 8 := nI_eq_iff (b := 8) (by omega) (by decide)
  have i4 : nI N = 4 ↔ N = 4 := nI_eq_iff (b := 4) (by omega) (by decide)
  have l4 : (4 : Int32) ≤ nI N ↔ 4 ≤ N := nI_le_iff (a := 4) (by decide) (by omega)
  unfold qX2_takeLine_B52
  refine ⟨fun c8 => ?_, fun c8 => ?_⟩
  · rw [i8] at c8
    rw [if_neg c8] at h
    refine ⟨fun c4 => ?_, fun c4 => ?_⟩
    · rw [l4] at c4
      rw [if_neg (by omega)] at h
      refine ⟨fun ce => ?_, fun ce => ?_⟩
      · rw [i4] at ce
        rw [if_neg ce] at h
        unfold qX2_takeActLine
        rw [ea, show (16 : Int32) = nI 16 from rfl, nI_lt_iff (by omega) (by decide)]
        refine ⟨fun c16 => ?_, fun c16 => ?_⟩
        · rw [if_neg (fun z => by have := (a16_iff v).mp z; omega)] at h
          have go : ∀ hi : Int32, hi = hiA N → qX2_takeActLine_B29 13 (nI N) post 0 hi σ := by
            rintro _ rfl
            unfold qX2_takeActLine_B29 qX2_takeActLine_B55
            refine s2_numberWithin e1 hT e34 cs ok (fun σ1 f1 c1 => ?_)
            have R1 := hR'.fk f1 c1
            have ok1 := lA1_ok (b := σ0 34) (N := N) hT ok
            refine s2_takeStop R1.2.1 hT (R1.2.2.2.2 34 (by decide) (by decide)) c1 ok1 (fun σ2 f2 c2 => ?_)
            have R2 : CR T σ0 σ2 (lA2 (σ0 34) T N y.1, y.2) := R1.fk f2 c2
            have hw : σ2 33 2 = 0 ↔ (lA2 (σ0 34) T N y.1).1 = 0 := c2.w0 (lA2_ok (b := σ0 34) (N := N) hT ok)
            refine ⟨fun z => ?_, fun z => ?_⟩
            · rw [if_neg (fun q => z (hw.mpr q))] at h
              exact h σ2 R2
            · have c0 : (lA2 (σ0 34) T N y.1).1 = 0 := hw.mp z
              rw [if_pos c0] at h
              obtain ⟨-, c10⟩ := lA_0 (by omega) c0
              have e6 : σ1 33 6 = (lA1 (σ0 34) T N y.1).2.2.2.2 := by
                refine (c1.2.2 c10).2.2 ?_
                have := ck_0 c10
                rw [this.2.2.2.2]
                exact this.2.1
              have go2 : ∀ r : Int32, r = fA N → qX0_appendAct 13 (r + σ1 33 6) σ2 (fun r51 σ51 => post σ51) := by
                rintro _ rfl
                have ea2 : σ2 13 7 = nI A := by
                  have q := v.2.2.1
                  rw [← R2.2.2.2.1] at q
                  exact q
                refine s0_appendAct ea2 hA (fun d => ?_) (fun d => by omega)
                have F : Fc 13 σ2 (up2 (up2 σ2 (13 + 5) A (fA N + σ1 33 6)) 13 7 (nI (A + 1))) := (Fc.rf.up (by decide) _ _).up0 _ _
                obtain ⟨-, q2, q3, q4, q5⟩ := R2
                refine h _ ⟨c2.rig F, by rw [F 33 (by decide)]; exact q2, by rw [F 33 (by decide)]; exact q3, ?_, fun k hk hk2 => by rw [F k (by omega)]; exact q5 k hk hk2⟩
                rw [rg_up0 _ _ _ _ rfl, rg_up 13 σ2 5 _ _ (rgk_p (by omega)), q4, e6]
                show _ = addA _ y.2.2
                unfold addA
                rw [v.2.2.1, tn_nI (by omega)]
              unfold qX2_firstActOf
              have i6 : nI N = 6 ↔ N = 6 := nI_eq_iff (b := 6) (by omega) (by decide)
              have i7 : nI N = 7 ↔ N = 7 := nI_eq_iff (b := 7) (by omega) (by decide)
              refine ⟨fun d => go2 _ ?_, fun d => ⟨fun d2 => go2 _ ?_, fun d2 => go2 _ ?_⟩⟩
              · rw [i6] at d; rw [fA, if_pos d]
              · rw [i6] at d; rw [i7] at d2; rw [fA, if_neg d, if_pos d2]
              · rw [i6] at d; rw [i7] at d2; rw [fA, if_neg d, if_neg d2]
          have i7 : nI N = 7 ↔ N = 7 := nI_eq_iff (b := 7) (by omega) (by decide)
          refine ⟨fun d => go _ ?_, fun d => go _ ?_⟩
          · rw [i7] at d; rw [hiA, if_neg d]
          · rw [i7] at d; rw [hiA, if_pos d]
        · rw [if_pos ((a16_iff v).mpr (by omega))] at h
          rintro _ rfl
          exact h _ (w2 5 (by decide))
      · rw [i4] at ce
        rw [if_pos ce] at h
        unfold qX2_takeShaftLine
        rw [e7]
        by_cases hs : y.2.1 = true
        · rw [if_pos hs] at h
          rw [if_pos hs]
          refine z1 ?_
          rintro _ rfl
          exact h _ (w2 4 (by decide))
        · rw [if_neg hs] at h
          rw [if_neg hs]
          refine z0 ?_
          unfold qX2_takeShaftLine_B42
          refine s2_numberWithin e1 hT e34 cs ok (fun σ1 f1 c1 => ?_)
          have R1 := hR'.fk f1 c1
          have ok1 := lW1_ok (b := σ0 34) hT ok
          refine s2_takeStop R1.2.1 hT (R1.2.2.2.2 34 (by decide) (by decide)) c1 ok1 (fun σ2 f2 c2 => ?_)
          have R2 : CR T σ0 σ2 (lS2 (σ0 34) T y.1, y.2) := R1.fk f2 c2
          have hw : σ2 33 2 = 0 ↔ (lS2 (σ0 34) T y.1).1 = 0 := c2.w0 (lS2_ok (b := σ0 34) hT ok)
          refine ⟨fun z => ?_, fun z => ?_⟩
          · rw [if_neg (fun q => z (hw.mpr q))] at h
            exact h σ2 R2
          · have c0 : (lS2 (σ0 34) T y.1).1 = 0 := hw.mp z
            rw [if_pos c0] at h
            obtain ⟨-, c10⟩ := lS_0 c0
            have e6 : σ1 33 6 = (lW1 (σ0 34) T y.1).2.2.2.2 := by
              refine (c1.2.2 c10).2.2 ?_
              have := ck_0 c10
              rw [this.2.2.2.2]
              exact this.2.1
            rintro _ rfl _ rfl
            obtain ⟨-, q2, q3, q4, q5⟩ := R2
            refine h _ ⟨?_, ?_, rd_eq _ _ _ _, ?_, fun k hk hk2 => by rw [rd_c hk, rd_c (by omega)]; exact q5 k hk hk2⟩
            · obtain ⟨k1, k2, k3⟩ := c2
              refine ⟨?_, ?_, fun z => ?_⟩
              · rw [rd_ne (by decide), rd_cj (by decide)]; exact k1
              · rw [rd_ne (by decide), rd_cj (by decide)]; exact k2
              · rw [rd_ne (by decide), rd_cj (by decide), rd_ne (by decide), rd_cj (by decide), rd_ne (by decide), rd_cj (by decide)]; exact k3 z
            · rw [rd_ne (by decide), rd_cj (by decide)]; exact q2
            · rw [rg_out _ _ (by decide), rg_up0 _ _ _ _ rfl, q4, e6]
    · rw [l4] at c4
      rw [if_pos (by omega)] at h
      unfold qX2_takeWheelLine
      rw [ew, show (4 : Int32) = nI 4 from rfl, nI_lt_iff (by omega) (by decide)]
      refine ⟨fun cw => ?_, fun cw => ?_⟩
      · rw [if_neg (fun z => by have := (w4_iff v).mp z; omega)] at h
        unfold qX2_takeWheelLine_B51
        refine s2_numberWithin e1 hT e34 cs ok (fun σ1 f1 c1 => ?_)
        have R1 := hR'.fk f1 c1
        have ok1 := lW1_ok (b := σ0 34) hT ok
        refine s2_numberWithin R1.2.1 hT (R1.2.2.2.2 34 (by decide) (by decide)) c1 ok1 (fun σ2 f2 c2 => ?_)
        have R2 := R1.fk f2 c2
        have ok2 := lW2_ok (b := σ0 34) hT ok
        refine s2_takeStop R2.2.1 hT (R2.2.2.2.2 34 (by decide) (by decide)) c2 ok2 (fun σ3 f3 c3 => ?_)
        have R3 : CR T σ0 σ3 (lW3 (σ0 34) T y.1, y.2) := R2.fk f3 c3
        have hw : σ3 33 2 = 0 ↔ (lW3 (σ0 34) T y.1).1 = 0 := c3.w0 (lW3_ok (b := σ0 34) hT ok)
        refine ⟨fun z => ?_, fun z => ?_⟩
        · rw [if_neg (fun q => z (hw.mpr q))] at h
          exact h σ3 R3
        · have c0 : (lW3 (σ0 34) T y.1).1 = 0 := hw.mp z
          rw [if_pos c0] at h
          obtain ⟨-, -, c10, c20⟩ := lW_0 c0
          have e6 : σ1 33 6 = (lW1 (σ0 34) T y.1).2.2.2.2 := by
            refine (c1.2.2 c10).2.2 ?_
            have := ck_0 c10
            rw [this.2.2.2.2]
            exact this.2.1
          have e62 : σ2 33 6 = (lW2 (σ0 34) T y.1).2.2.2.2 := by
            refine (c2.2.2 c20).2.2 ?_
            have := ck_0 c20
            show (ck 0 9 (nx (σ0 34) T (lW1 (σ0 34) T y.1))).2.2.2.1 = 2
            rw [this.2.2.2.2]
            exact this.2.1
          have ew3 : σ3 13 2 = nI W := by
            have q := v.1
            rw [← R3.2.2.2.1] at q
            exact q
          refine s0_appendWheel ew3 hW (fun d => ?_) (fun d => by omega)
          have F : Fc 13 σ3 (up2 (up2 (up2 (up2 (up2 σ3 (13 + 1) W (nI N)) (13 + 2) W (σ1 33 6)) (13 + 3) W (σ2 33 6)) (13 + 4) W 0) 13 2 (nI (W + 1))) := ((((Fc.rf.up (by decide) _ _).up (by decide) _ _).up (by decide) _ _).up (by decide) _ _).up0 _ _
          obtain ⟨-, q2, q3, q4, q5⟩ := R3
          refine h _ ⟨c3.rig F, by rw [F 33 (by decide)]; exact q2, by rw [F 33 (by decide)]; exact q3, ?_, fun k hk hk2 => by rw [F k (by omega)]; exact q5 k hk hk2⟩
          rw [put_rg d, q4, e6, e62]
          show _ = addW _ _ _ y.2.2
          unfold addW
          rw [v.1, tn_nI (by omega)]
      · rw [if_pos ((w4_iff v).mpr (by omega))] at h
        rintro _ rfl
        exact h _ (w2 5 (by decide))
  · rw [i8] at c8
    rw [if_pos c8] at h
    rintro _ rfl
    exact h _ (w2 2 (by decide))
