/-! ===== the reference: must, worth, holder, judge, again, plan, gain ===== -/
theorem nI_surj (x : Int32) : ∃ v, x = nI v := by
  refine ⟨x.toBitVec.toNat, ?_⟩
  apply Int32.toBitVec_inj.mp
  show _ = BitVec.ofNat 32 _
  simp
section SRU
variable {l : Launch} {G : Gx} {d : Nat} {bc bs : Nat} {Φ : OutV → Mm → Prop}
theorem ct_r_must (M : Mm) (w : Wd) (hw : WOK w) (hI : RINV M w) (x y t : Int32) (hd : 2 < d) (h : RPost M (aMust w x y t) Φ) : Ct l G d mRe_must bc bs [.ref 206, .int x, .int y, .int t] M Φ := by
  refine Ct.of rfl (Nat.le_of_ble_eq_true rfl) ?_
  have n8 := hw.1
  obtain ⟨hF0, hI0, t0⟩ := hI.t0 hw
  have hS0 := hI0.1
  refine bRe_must_0 _ _ _ _ _ ⟨hI.1.c, CallVC.cps0 (by omega) ?_⟩
  generalize m_si M 206 0 0 = M0 at *
  refine ct_isPerson M0 w hw hI0 x (by omega) (fun q1 => ?_) (fun q1 => ?_)
  rotate_left
  · refine bRe_must_11 _ _ _ _ _ _ _ ?_
    refine ⟨fun z => ?_, fun z => ?_⟩ <;> first | exact absurd rfl z | exact absurd z (by decide) | skip
    refine ⟨hS0.c, CallVC.cps0 (by omega) (ct_bad1 M0 _ hS0 t0 (by decide) ?_)⟩
    refine bRe_must_31 _ _ _ _ _ _ ?_
    refine ⟨fun z => ?_, fun z => ?_⟩ <;> first | exact absurd rfl z | exact absurd z (by decide) | skip
    exact h.fail hw hF0 hI0 (code := 1) rfl (okP_n q1)
  refine bRe_must_11 _ _ _ _ _ _ _ ?_
  refine ⟨fun z => ?_, fun z => ?_⟩ <;> first | exact absurd rfl z | exact absurd z (by decide) | skip
  refine ⟨hS0.c, CallVC.cps0 (by omega) ?_⟩
  refine ct_isPerson M0 w hw hI0 y (by omega) (fun q2 => ?_) (fun q2 => ?_)
  rotate_left
  · refine bRe_must_19 _ _ _ _ _ _ _ ?_
    refine ⟨fun z => ?_, fun z => ?_⟩ <;> first | exact absurd rfl z | exact absurd z (by decide) | skip
    refine ⟨hS0.c, CallVC.cps0 (by omega) (ct_bad1 M0 _ hS0 t0 (by decide) ?_)⟩
    refine bRe_must_31 _ _ _ _ _ _ ?_
    refine ⟨fun z => ?_, fun z => ?_⟩ <;> first | exact absurd rfl z | exact absurd z (by decide) | skip
    exact h.fail hw hF0 hI0 (code := 1) rfl ((okP_y q1).trans (okP_n q2))
  refine bRe_must_19 _ _ _ _ _ _ _ ?_
  refine ⟨fun z => ?_, fun z => ?_⟩ <;> first | exact absurd rfl z | exact absurd z (by decide) | skip
  refine ⟨hS0.c, CallVC.cps0 (by omega) (ct_bad0 M0 _ hS0 t0 ?_)⟩
  refine bRe_must_31 _ _ _ _ _ _ ?_
  refine ⟨fun z => ?_, fun z => ?_⟩ <;> first | exact absurd rfl z | exact absurd z (by decide) | skip
  by_cases q3 : x = y
  · refine ⟨fun _ => ⟨hS0.c, CallVC.cps0 (by omega) (ct_bad1 M0 _ hS0 t0 (by decide) ?_)⟩, fun z => absurd q3 z⟩
    refine bRe_must_59 _ _ _ _ _ _ ?_
    refine ⟨fun z => ?_, fun z => ?_⟩ <;> first | exact absurd rfl z | exact absurd z (by decide) | skip
    refine h.fail hw hF0 hI0 (code := 2) rfl (((okP_y q1).trans (okP_y q2)).trans ?_)
    rw [if_pos q3]
    unfold okV
    split <;> rfl
  refine ⟨fun z => absurd z q3, fun _ => CallVC.cps0 (by omega) ?_⟩
  refine ct_inV M0 16 t (fun q4 => ?_) (fun q4 => ?_)
  rotate_left
  · refine bRe_must_47 _ _ _ _ _ _ _ ?_
    refine ⟨fun z => ?_, fun z => ?_⟩ <;> first | exact absurd rfl z | exact absurd z (by decide) | skip
    refine ⟨hS0.c, CallVC.cps0 (by omega) (ct_bad1 M0 _ hS0 t0 (by decide) ?_)⟩
    refine bRe_must_59 _ _ _ _ _ _ ?_
    refine ⟨fun z => ?_, fun z => ?_⟩ <;> first | exact absurd rfl z | exact absurd z (by decide) | skip
    exact h.fail hw hF0 hI0 (code := 2) rfl (((okP_y q1).trans (okP_y q2)).trans (okV_n q4))
  refine bRe_must_47 _ _ _ _ _ _ _ ?_
  refine ⟨fun z => ?_, fun z => ?_⟩ <;> first | exact absurd rfl z | exact absurd z (by decide) | skip
  refine ⟨hS0.c, CallVC.cps0 (by omega) (ct_bad0 M0 _ hS0 t0 ?_)⟩
  refine bRe_must_59 _ _ _ _ _ _ ?_
  refine ⟨fun z => ?_, fun z => ?_⟩ <;> first | exact absurd rfl z | exact absurd z (by decide) | skip
  obtain ⟨p, hp, rfl⟩ := (pIn_nI n8).mp q1
  obtain ⟨o, ho, rfl⟩ := (pIn_nI n8).mp q2
  obtain ⟨v, hv, rfl⟩ := (vIn_nI (by omega)).mp q4
  refine ⟨hS0.c, CallVC.cps0 (by omega) ?_⟩
  refine ct_layRules M0 hS0 (w_R w) hI0.2.2.1 hw.2.2.2.2.1 0 (by omega) hI0.2.2.2.1.1 (fun M1 hF1 hL1 => ?_)
  have hC1 := hI0.rdc hw hF1 hL1 (fun p => Classical.choose (nI_surj (m_i M0 262 p))) (fun p _ => Classical.choose_spec (nI_surj (m_i M0 262 p)))
  have hF1r : FrS QR M0 M1 := hF1.mono (fun a j q => by unfold QR; omega)
  have t1 : m_i M1 206 0 = 0 := by rw [hF1.1 _ _ (by omega)]; exact t0
  refine bRe_must_68 _ _ _ _ _ ⟨hC1.1.c, CallVC.cps0 (by omega) ?_⟩
  refine ct_mustBe M1 _ (w_R w) 0 hC1 p o v hp ho (by omega) (fun M2 hF2 => ?_)
  have hF2r : FrS QR M1 M2 := hF2.mono (fun a j q => by unfold QN at q; unfold QR; omega)
  refine bRe_must_75 _ _ _ _ _ _ ⟨by cases c_mu _ p o v <;> rfl, ?_⟩
  refine h.done hw ((hF0.tr hF1r).tr hF2r) ((hI0.fr hw hF1r).fr hw hF2r) (by rw [hF2.1 _ _ (by unfold QN; omega)]; exact t1) ((((okP_y q1).trans (okP_y q2)).trans (okV_y q4)).trans ?_)
  rw [if_neg q3, tN_nI (by omega), tN_nI (by omega), tN_nI (by omega)]
  rfl
theorem ct_r_worth (M : Mm) (w : Wd) (hw : WOK w) (hI : RINV M w) (x y t : Int32) (hd : 2 < d) (h : RPost M (aWorth w x y t) Φ) : Ct l G d mRe_worth bc bs [.ref 206, .int x, .int y, .int t] M Φ := by
  refine Ct.of rfl (Nat.le_of_ble_eq_true rfl) ?_
  have n8 := hw.1
  obtain ⟨hF0, hI0, t0⟩ := hI.t0 hw
  have hS0 := hI0.1
  refine bRe_worth_0 _ _ _ _ _ ⟨hI.1.c, CallVC.cps0 (by omega) ?_⟩
  generalize m_si M 206 0 0 = M0 at *
  refine ct_isPerson M0 w hw hI0 x (by omega) (fun q1 => ?_) (fun q1 => ?_)
  rotate_left
  · refine bRe_worth_11 _ _ _ _ _ _ _ ?_
    refine ⟨fun z => ?_, fun z => ?_⟩ <;> first | exact absurd rfl z | exact absurd z (by decide) | skip
    refine ⟨hS0.c, CallVC.cps0 (by omega) (ct_bad1 M0 _ hS0 t0 (by decide) ?_)⟩
    refine bRe_worth_31 _ _ _ _ _ _ ?_
    refine ⟨fun z => ?_, fun z => ?_⟩ <;> first | exact absurd rfl z | exact absurd z (by decide) | skip
    exact h.fail hw hF0 hI0 (code := 1) rfl (okP_n q1)
  refine bRe_worth_11 _ _ _ _ _ _ _ ?_
  refine ⟨fun z => ?_, fun z => ?_⟩ <;> first | exact absurd rfl z | exact absurd z (by decide) | skip
  refine ⟨hS0.c, CallVC.cps0 (by omega) ?_⟩
  refine ct_isPerson M0 w hw hI0 y (by omega) (fun q2 => ?_) (fun q2 => ?_)
  rotate_left
  · refine bRe_worth_19 _ _ _ _ _ _ _ ?_
    refine ⟨fun z => ?_, fun z => ?_⟩ <;> first | exact absurd rfl z | exact absurd z (by decide) | skip
    refine ⟨hS0.c, CallVC.cps0 (by omega) (ct_bad1 M0 _ hS0 t0 (by decide) ?_)⟩
    refine bRe_worth_31 _ _ _ _ _ _ ?_
    refine ⟨fun z => ?_, fun z => ?_⟩ <;> first | exact absurd rfl z | exact absurd z (by decide) | skip
    exact h.fail hw hF0 hI0 (code := 1) rfl ((okP_y q1).trans (okP_n q2))
  refine bRe_worth_19 _ _ _ _ _ _ _ ?_
  refine ⟨fun z => ?_, fun z => ?_⟩ <;> first | exact absurd rfl z | exact absurd z (by decide) | skip
  refine ⟨hS0.c, CallVC.cps0 (by omega) (ct_bad0 M0 _ hS0 t0 ?_)⟩
  refine bRe_worth_31 _ _ _ _ _ _ ?_
  refine ⟨fun z => ?_, fun z => ?_⟩ <;> first | exact absurd rfl z | exact absurd z (by decide) | skip
  by_cases q3 : x = y
  · refine ⟨fun _ => ⟨hS0.c, CallVC.cps0 (by omega) (ct_bad1 M0 _ hS0 t0 (by decide) ?_)⟩, fun z => absurd q3 z⟩
    refine bRe_worth_59 _ _ _ _ _ _ ?_
    refine ⟨fun z => ?_, fun z => ?_⟩ <;> first | exact absurd rfl z | exact absurd z (by decide) | skip
    refine h.fail hw hF0 hI0 (code := 2) rfl (((okP_y q1).trans (okP_y q2)).trans ?_)
    rw [if_pos q3]
    unfold okV
    split <;> rfl
  refine ⟨fun z => absurd z q3, fun _ => CallVC.cps0 (by omega) ?_⟩
  refine ct_inV M0 16 t (fun q4 => ?_) (fun q4 => ?_)
  rotate_left
  · refine bRe_worth_47 _ _ _ _ _ _ _ ?_
    refine ⟨fun z => ?_, fun z => ?_⟩ <;> first | exact absurd rfl z | exact absurd z (by decide) | skip
    refine ⟨hS0.c, CallVC.cps0 (by omega) (ct_bad1 M0 _ hS0 t0 (by decide) ?_)⟩
    refine bRe_worth_59 _ _ _ _ _ _ ?_
    refine ⟨fun z => ?_, fun z => ?_⟩ <;> first | exact absurd rfl z | exact absurd z (by decide) | skip
    exact h.fail hw hF0 hI0 (code := 2) rfl (((okP_y q1).trans (okP_y q2)).trans (okV_n q4))
  refine bRe_worth_47 _ _ _ _ _ _ _ ?_
  refine ⟨fun z => ?_, fun z => ?_⟩ <;> first | exact absurd rfl z | exact absurd z (by decide) | skip
  refine ⟨hS0.c, CallVC.cps0 (by omega) (ct_bad0 M0 _ hS0 t0 ?_)⟩
  refine bRe_worth_59 _ _ _ _ _ _ ?_
  refine ⟨fun z => ?_, fun z => ?_⟩ <;> first | exact absurd rfl z | exact absurd z (by decide) | skip
  obtain ⟨p, hp, rfl⟩ := (pIn_nI n8).mp q1
  obtain ⟨o, ho, rfl⟩ := (pIn_nI n8).mp q2
  obtain ⟨v, hv, rfl⟩ := (vIn_nI (by omega)).mp q4
  refine ⟨hS0.c, CallVC.cps0 (by omega) ?_⟩
  refine ct_layRules M0 hS0 (w_R w) hI0.2.2.1 hw.2.2.2.2.1 0 (by omega) hI0.2.2.2.1.1 (fun M1 hF1 hL1 => ?_)
  have hC1 := hI0.rdc hw hF1 hL1 (fun p => Classical.choose (nI_surj (m_i M0 262 p))) (fun p _ => Classical.choose_spec (nI_surj (m_i M0 262 p)))
  have hF1r : FrS QR M0 M1 := hF1.mono (fun a j q => by unfold QR; omega)
  have t1 : m_i M1 206 0 = 0 := by rw [hF1.1 _ _ (by omega)]; exact t0
  refine bRe_worth_68 _ _ _ _ _ ⟨hC1.1.c, CallVC.cps0 (by omega) ?_⟩
  refine ct_worthOf M1 _ (w_R w) 0 hC1 p o v hp ho (by omega) (fun M2 hF2 => ?_)
  have hF2r : FrS QR M1 M2 := hF2.mono (fun a j q => by unfold QN at q; unfold QR; omega)
  refine bRe_worth_75 _ _ _ _ _ _ ?_
  refine h.done hw ((hF0.tr hF1r).tr hF2r) ((hI0.fr hw hF1r).fr hw hF2r) (by rw [hF2.1 _ _ (by unfold QN; omega)]; exact t1) ((((okP_y q1).trans (okP_y q2)).trans (okV_y q4)).trans ?_)
  rw [if_neg q3, tN_nI (by omega), tN_nI (by omega), tN_nI (by omega)]
  rfl
theorem ct_r_holder (M : Mm) (w : Wd) (hw : WOK w) (hI : RINV M w) (x y : Int32) (hd : 7 < d) (h : RPost M (aHolder w x y) Φ) : Ct l G d mRe_holder bc bs [.ref 206, .int x, .int y] M Φ := by
  refine Ct.of rfl (Nat.le_of_ble_eq_true rfl) ?_
  have n8 := hw.1
  obtain ⟨hF0, hI0, t0⟩ := hI.t0 hw
  have hS0 := hI0.1
  refine bRe_holder_0 _ _ _ _ ⟨hI.1.c, CallVC.cps0 (by omega) ?_⟩
  generalize m_si M 206 0 0 = M0 at *
  refine ct_asItIsW M0 w hw 0 (by omega) none 0 none 0 0 hI0.rin (fun p q => by cases q) (fun p q => by cases q) (by omega) (fun M1 hF1 hD1 hC1 => ?_)
  obtain ⟨hok, hrk⟩ := day0W_ok hw
  have hF1' := hF0.tr (hF1.mono QY.r)
  have hI1 := hI0.fr hw (hF1.mono QY.r)
  have t1 : m_i M1 206 0 = 0 := by rw [hF1.1 _ _ (by unfold QY QD; omega)]; exact t0
  have hS1 := hI1.1
  replace hD1 : RDs M1 (day0W w) := hD1
  obtain ⟨⟨d40, -, -, -, -, -, hcr⟩, -⟩ := hD1
  have h8 : (g_cs (day0W w)).length ≤ 8 := hok.2.2.2.2.2.2.2.2.2.2.1
  refine bRe_holder_9 _ _ _ _ ⟨hS1.c, CallVC.cps0 (by omega) ?_⟩
  rw [d40]
  refine ct_inC M1 w h8 x (fun q1 => ?_) (fun q1 => ?_)
  rotate_left
  · refine bRe_holder_21 _ _ _ _ _ _ ?_
    refine ⟨fun z => ?_, fun z => ?_⟩ <;> first | exact absurd rfl z | exact absurd z (by decide) | skip
    refine ⟨hS1.c, CallVC.cps0 (by omega) (ct_bad1 M1 _ hS1 t1 (by decide) ?_)⟩
    refine bRe_holder_33 _ _ _ _ _ ?_
    refine ⟨fun z => ?_, fun z => ?_⟩ <;> first | exact absurd rfl z | exact absurd z (by decide) | skip
    exact h.fail hw hF1' hI1 (code := 1) rfl (okC_n q1)
  refine bRe_holder_21 _ _ _ _ _ _ ?_
  refine ⟨fun z => ?_, fun z => ?_⟩ <;> first | exact absurd rfl z | exact absurd z (by decide) | skip
  refine ⟨hS1.c, CallVC.cps0 (by omega) (ct_bad0 M1 _ hS1 t1 ?_)⟩
  refine bRe_holder_33 _ _ _ _ _ ?_
  refine ⟨fun z => ?_, fun z => ?_⟩ <;> first | exact absurd rfl z | exact absurd z (by decide) | skip
  obtain ⟨k, hk, rfl⟩ := (cIn_nI h8).mp q1
  obtain ⟨c1, c2, c3, c4, c5, c6, c7⟩ := hcr k hk
  have hmem : (g_cs (day0W w)).getD k cr0 ∈ g_cs (day0W w) := by
    rw [List.getD_eq_getElem?_getD, List.getElem?_eq_getElem hk]
    exact List.getElem_mem hk
  have hof := (hok.2.2.2.2.2.2.2.2.2.2.2 _ hmem).1
  have hfin : ∀ r, r = holdV ((g_cs (day0W w)).getD k cr0) y → Φ (.inl (some (.int r))) M1 := fun r e => by
    refine h.done hw hF1' hI1 t1 ((okC_y q1).trans ?_)
    rw [tN_nI (by omega), e]
  generalize (g_cs (day0W w)).getD k cr0 = r at *
  simp (disch := omega) only [hS1.c, hS1.r_fed, hS1.s_fed, hS1.r_rKind, hS1.s_rKind, hS1.r_kind, hS1.s_kind, hS1.r_rNum, hS1.s_rNum, hS1.r_num, hS1.s_num, hS1.r_rLong, hS1.s_rLong, hS1.r_cLong, hS1.s_cLong, hS1.r_stack, hS1.s_stack, hS1.r_names, hS1.s_names, hS1.r_row, hS1.s_row, hS1.r_ruleOf, hS1.s_ruleOf, hS1.r_ways, hS1.s_ways, hS1.r_cWho, hS1.s_cWho, hS1.r_cMin, hS1.s_cMin, hS1.r_cOff, hS1.s_cOff, hS1.r_cTh, hS1.s_cTh, hS1.r_cEnd, hS1.s_cEnd, hS1.r_hds, hS1.s_hds, hS1.r_ends, hS1.s_ends, hS1.r_there, hS1.s_there, hS1.r_offd, hS1.s_offd, hS1.r_had, hS1.s_had, hS1.r_rPer, hS1.s_rPer, hS1.r_rP, hS1.s_rP, hS1.r_per, hS1.s_per, hS1.r_pr, hS1.s_pr, hS1.r_rCode, hS1.s_rCode, hS1.r_rC, hS1.s_rC, hS1.r_code, hS1.s_code, hS1.r_cd, hS1.s_cd, hS1.r_kept, hS1.s_kept, hS1.r_kp, hS1.s_kp, hS1.r_holder, hS1.s_holder, hS1.r_hd, hS1.s_hd, hS1.r_pass, hS1.s_pass, hS1.r_ps, hS1.s_ps, hS1.r_debt, hS1.s_debt, hS1.r_db, hS1.s_db, hS1.r_endBy, hS1.s_endBy, hS1.r_eb, hS1.s_eb, vpT, vpk0, clk0, vpk1, clk1, vpk2, clk2, vpk3, clk3, vpk4, clk4, vpk5, clk5, vpk6, clk6, vpk7, clk7, vpk8, clk8, vpk9, clk9, nI_clamp, nI_1, true_and]
  refine CallVC.cps0 (by omega) (ct_rIn M1 _ _ _ ?_)
  cases hu : r.2.2.2.2.2.2 with
  | true =>
    rw [c6 hu]
    rw [if_neg (fun z => by
      obtain ⟨v, v1, rfl⟩ := i32_nat z.1
      have := (nI_pred_lt (n := 0) (by omega) z.1).mp z.2
      have := (nI_ltI (by omega) (by omega)).mp this
      omega)]
    refine bRe_holder_51 _ _ _ _ _ ⟨fun _ => hfin _ ?_, fun z => absurd rfl z⟩
    unfold holdV
    rw [if_pos hu]
  | false =>
    obtain ⟨k1, k2⟩ := c7 hu
    rw [k1]
    by_cases z : ¬ y < 0 ∧ ¬ nI r.2.2.2.1 < y
    · have z' : ¬ y < 0 ∧ ¬ nI (r.2.2.2.1 + 1) - 1 < y := ⟨z.1, by rw [nI_pred]; exact z.2⟩
      rw [if_pos z']
      obtain ⟨v, v1, rfl⟩ := i32_nat z.1
      have hv : v ≤ r.2.2.2.1 := Nat.le_of_not_lt (fun q => z.2 ((nI_ltI (by omega) (by omega)).mpr q))
      have e := k2 v (by omega)
      refine bRe_holder_51 _ _ _ _ _ ⟨fun z => absurd z (by decide), fun _ => ?_⟩
      simp (disch := omega) only [hS1.c, hS1.r_fed, hS1.s_fed, hS1.r_rKind, hS1.s_rKind, hS1.r_kind, hS1.s_kind, hS1.r_rNum, hS1.s_rNum, hS1.r_num, hS1.s_num, hS1.r_rLong, hS1.s_rLong, hS1.r_cLong, hS1.s_cLong, hS1.r_stack, hS1.s_stack, hS1.r_names, hS1.s_names, hS1.r_row, hS1.s_row, hS1.r_ruleOf, hS1.s_ruleOf, hS1.r_ways, hS1.s_ways, hS1.r_cWho, hS1.s_cWho, hS1.r_cMin, hS1.s_cMin, hS1.r_cOff, hS1.s_cOff, hS1.r_cTh, hS1.s_cTh, hS1.r_cEnd, hS1.s_cEnd, hS1.r_hds, hS1.s_hds, hS1.r_ends, hS1.s_ends, hS1.r_there, hS1.s_there, hS1.r_offd, hS1.s_offd, hS1.r_had, hS1.s_had, hS1.r_rPer, hS1.s_rPer, hS1.r_rP, hS1.s_rP, hS1.r_per, hS1.s_per, hS1.r_pr, hS1.s_pr, hS1.r_rCode, hS1.s_rCode, hS1.r_rC, hS1.s_rC, hS1.r_code, hS1.s_code, hS1.r_cd, hS1.s_cd, hS1.r_kept, hS1.s_kept, hS1.r_kp, hS1.s_kp, hS1.r_holder, hS1.s_holder, hS1.r_hd, hS1.s_hd, hS1.r_pass, hS1.s_pass, hS1.r_ps, hS1.s_ps, hS1.r_debt, hS1.s_debt, hS1.r_db, hS1.s_db, hS1.r_endBy, hS1.s_endBy, hS1.r_eb, hS1.s_eb, vpT, vpk0, clk0, vpk1, clk1, vpk2, clk2, vpk3, clk3, vpk4, clk4, vpk5, clk5, vpk6, clk6, vpk7, clk7, vpk8, clk8, vpk9, clk9, nI_clamp, nI_1, true_and, e]
      refine hfin _ ?_
      unfold holdV
      rw [if_neg (by rw [hu]; decide), if_pos z, tN_nI (by omega)]
    · have z' : ¬ (¬ y < 0 ∧ ¬ nI (r.2.2.2.1 + 1) - 1 < y) := fun q => z ⟨q.1, by have := q.2; rw [nI_pred] at this; exact this⟩
      rw [if_neg z']
      refine bRe_holder_51 _ _ _ _ _ ⟨fun _ => hfin _ ?_, fun z => absurd rfl z⟩
      unfold holdV
      rw [if_neg (by rw [hu]; decide), if_neg z]
theorem ct_r_judge (M : Mm) (w : Wd) (hw : WOK w) (hI : RINV M w) (hd : 7 < d) (h : RPost M (aJudge w) Φ) : Ct l G d mRe_judge bc bs [.ref 206] M Φ := by
  refine Ct.of rfl (Nat.le_of_ble_eq_true rfl) ?_
  have n8 := hw.1
  obtain ⟨hF0, hI0, t0⟩ := hI.t0 hw
  have hS0 := hI0.1
  refine bRe_judge_0 _ _ ⟨hI.1.c, CallVC.cps0 (by omega) ?_⟩
  generalize m_si M 206 0 0 = M0 at *
  refine ct_asItIsW M0 w hw 0 (by omega) none 0 none 0 0 hI0.rin (fun p q => by cases q) (fun p q => by cases q) (by omega) (fun M1 hF1 hD1 hC1 => ?_)
  obtain ⟨hok, hrk⟩ := day0W_ok hw
  have hF1' := hF0.tr (hF1.mono QY.r)
  have hI1 := hI0.fr hw (hF1.mono QY.r)
  have t1 : m_i M1 206 0 = 0 := by rw [hF1.1 _ _ (by unfold QY QD; omega)]; exact t0
  have hS1 := hI1.1
  replace hD1 : RDs M1 (day0W w) := hD1
  obtain ⟨⟨d40, -, -, -, -, -, hcr⟩, -⟩ := hD1
  have h8 : (g_cs (day0W w)).length ≤ 8 := hok.2.2.2.2.2.2.2.2.2.2.1
  have hs8 := hw.2.2.2.2.2.2.2.1
  obtain ⟨r27, rrow⟩ := hI1.2.2.2.2.2.2.1
  have hfin : ∀ r, r = judN w (g_cs (day0W w)) (w_ss w) 0 → Φ (.inl (some (.int r))) M1 := fun r e => by
    refine h.done hw hF1' hI1 t1 ?_
    rw [e]; rfl
  generalize hJ : judN w (g_cs (day0W w)) (w_ss w) 0 = J at hfin
  refine bRe_judge_9 _ _ _ ?_
  have js : ∀ k i, judN w (g_cs (day0W w)) (k + 1) i = if (g_cs (day0W w)).length ≤ i then nI i else if ((g_cs (day0W w)).getD i cr0).2.2.2.2.1 = w_sr w i then judN w (g_cs (day0W w)) k (i + 1) else nI i := fun _ _ => rfl
  have loop : ∀ e i, i + e = w_ss w → judN w (g_cs (day0W w)) e i = J → Ev l G d mRe_judge 11 [.ref 206, .int (nI i)] [] M1 bc bs Φ := by
    intro e
    induction e with
    | zero =>
      intro i hi hj
      refine bRe_judge_11 _ _ _ ⟨hS1.c, fun _ => hfin _ hj, fun q => absurd ?_ q⟩
      rw [r27]; exact nI_le (by omega) (by omega)
    | succ e ih =>
      intro i hi hj
      rw [js] at hj
      have er := rrow i (by omega)
      refine bRe_judge_11 _ _ _ ⟨hS1.c, fun q => absurd q (by rw [r27]; exact nI_not_le (by omega) (by omega)), fun _ => ?_⟩
      by_cases z : (g_cs (day0W w)).length ≤ i
      · rw [if_pos z] at hj
        rw [d40]
        exact ⟨fun _ => hfin _ hj, fun q => absurd (nI_le z (by omega)) q⟩
      · rw [if_neg z] at hj
        have ec := (hcr i (by omega)).1
        simp (disch := omega) only [hS1.c, hS1.r_fed, hS1.s_fed, hS1.r_rKind, hS1.s_rKind, hS1.r_kind, hS1.s_kind, hS1.r_rNum, hS1.s_rNum, hS1.r_num, hS1.s_num, hS1.r_rLong, hS1.s_rLong, hS1.r_cLong, hS1.s_cLong, hS1.r_stack, hS1.s_stack, hS1.r_names, hS1.s_names, hS1.r_row, hS1.s_row, hS1.r_ruleOf, hS1.s_ruleOf, hS1.r_ways, hS1.s_ways, hS1.r_cWho, hS1.s_cWho, hS1.r_cMin, hS1.s_cMin, hS1.r_cOff, hS1.s_cOff, hS1.r_cTh, hS1.s_cTh, hS1.r_cEnd, hS1.s_cEnd, hS1.r_hds, hS1.s_hds, hS1.r_ends, hS1.s_ends, hS1.r_there, hS1.s_there, hS1.r_offd, hS1.s_offd, hS1.r_had, hS1.s_had, hS1.r_rPer, hS1.s_rPer, hS1.r_rP, hS1.s_rP, hS1.r_per, hS1.s_per, hS1.r_pr, hS1.s_pr, hS1.r_rCode, hS1.s_rCode, hS1.r_rC, hS1.s_rC, hS1.r_code, hS1.s_code, hS1.r_cd, hS1.s_cd, hS1.r_kept, hS1.s_kept, hS1.r_kp, hS1.s_kp, hS1.r_holder, hS1.s_holder, hS1.r_hd, hS1.s_hd, hS1.r_pass, hS1.s_pass, hS1.r_ps, hS1.s_ps, hS1.r_debt, hS1.s_debt, hS1.r_db, hS1.s_db, hS1.r_endBy, hS1.s_endBy, hS1.r_eb, hS1.s_eb, vpT, vpk0, clk0, vpk1, clk1, vpk2, clk2, vpk3, clk3, vpk4, clk4, vpk5, clk5, vpk6, clk6, vpk7, clk7, vpk8, clk8, vpk9, clk9, nI_clamp, nI_1, true_and, d40, ec, er]
        refine ⟨fun q => absurd q (nI_not_le (by omega) (by omega)), fun _ => ?_⟩
        refine ⟨fun q => ?_, fun q => ?_⟩
        · first
            | (rw [if_neg q] at hj; exact hfin _ hj)
            | (rw [if_pos q] at hj; exact ih (i + 1) (by omega) hj)
        · first
            | (rw [if_neg q] at hj; exact hfin _ hj)
            | (rw [if_pos q] at hj; exact ih (i + 1) (by omega) hj)
  exact loop (w_ss w) 0 (by omega) hJ
end SRU
