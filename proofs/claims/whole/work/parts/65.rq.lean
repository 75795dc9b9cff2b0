/-! ===== the reference: questions ===== -/
theorem day0W_ok {w : Wd} (hw : WOK w) : SOK (cW w 0 none 0 none 0 0 (fun p => w_F w p 5)) (day0W w) ∧ RK (day0W w) := dyW_ok hw (fun p q => by cases q) (fun p q => by cases q) (fun p hp => (hw.2.1 p hp).2.2.2.2.2.1)
theorem RINV.setF {M : Mm} {w : Wd} (hw : WOK w) (h : RINV M w) {p k v : Nat} (hp : p < w_n w) (hk : k < 8) : RINV (m_si M (218 + p) k (nI v)) (ws_F w (upd2 (w_F w) p k v)) := by
  have n8 := hw.1
  obtain ⟨a1, a2, a3, a4, a5, a6, a7, a8, a9⟩ := h
  have hF : FrS (fun a _ => a = 218 + p) M (m_si M (218 + p) k (nI v)) := FrS.si (P := fun a _ => a = 218 + p) rfl _
  have hT := hw.2.2.2.2.2.1
  have hi := hw.2.2.2.2.2.2.2.2.1
  refine ⟨a1.fr hF, ⟨by rw [hF.1 _ _ (by omega)]; exact a2.1, a2.2.1, fun q j hq hj => ?_⟩, a3.fr hF (by omega) (fun j => by omega) (fun j => by omega) (fun j => by omega) (fun i j hi => by omega), ⟨by rw [hF.1 _ _ (by omega)]; exact a4.1, by rw [hF.1 _ _ (by omega)]; exact a4.2.1, by rw [hF.1 _ _ (by omega)]; exact a4.2.2⟩, ⟨by rw [hF.1 _ _ (by omega)]; exact a5.1, fun i hi => by rw [hF.1 _ _ (by omega)]; exact a5.2 i hi⟩, by rw [hF.1 _ _ (by omega)]; exact a6, ⟨by rw [hF.1 _ _ (by omega)]; exact a7.1, fun j hj => by rw [hF.1 _ _ (by omega)]; exact a7.2 j hj⟩, by rw [hF.1 _ _ (by omega)]; exact a8, fun i hi2 => (a9 i hi2).fr hF (fun j => by have : i < w_ic w := hi2; omega)⟩
  show _ = nI (if q = p ∧ j = k then v else w_F w q j)
  rw [m_i_si]
  by_cases z : q = p ∧ j = k
  · rw [if_pos ⟨by omega, z.2⟩, if_pos z]
  · rw [if_neg (by omega), if_neg z]; exact a2.2.2 q j hq hj
section SRR
variable {l : Launch} {G : Gx} {d : Nat} {bc bs : Nat} {Φ : OutV → Mm → Prop}
theorem ct_r_fault (M : Mm) (w : Wd) (hw : WOK w) (hI : RINV M w) (h : RPost M (aFault w) Φ) : Ct l G d mRe_fault bc bs [.ref 206] M Φ := by
  refine Ct.of rfl (Nat.le_of_ble_eq_true rfl) ?_
  have n8 := hw.1
  obtain ⟨hF0, hI0, t0⟩ := hI.t0 hw
  have hS0 := hI0.1
  refine bRe_fault_0 _ _ ⟨hI.1.c, ?_⟩
  rw [hI0.2.2.2.2.2.1]
  exact h.done hw hF0 hI0 t0 rfl
theorem ct_r_count (M : Mm) (w : Wd) (hw : WOK w) (hI : RINV M w) (x : Int32) (h : RPost M (aCount w x) Φ) : Ct l G d mRe_count bc bs [.ref 206, .int x] M Φ := by
  refine Ct.of rfl (Nat.le_of_ble_eq_true rfl) ?_
  have n8 := hw.1
  obtain ⟨hF0, hI0, t0⟩ := hI.t0 hw
  have hS0 := hI0.1
  refine bRe_count_0 _ _ _ ⟨hI.1.c, ?_⟩
  rw [hI0.2.2.2.2.1.1, hI0.2.2.2.2.2.2.1.1, hI0.2.2.2.2.2.2.2.1]
  refine ⟨fun z1 => ⟨fun z2 => ⟨fun z3 => h.done hw hF0 hI0 t0 ?_, fun z3 => h.done hw hF0 hI0 t0 ?_⟩, fun z2 => h.done hw hF0 hI0 t0 ?_⟩, fun z1 => h.done hw hF0 hI0 t0 ?_⟩
  · unfold aCount; rw [if_neg z1, if_neg z2, if_neg z3]
  · unfold aCount; rw [if_neg z1, if_neg z2, if_pos z3]
  · unfold aCount; rw [if_neg z1, if_pos z2]
  · unfold aCount; rw [if_pos z1]
theorem ct_r_forget (M : Mm) (w : Wd) (hw : WOK w) (hI : RINV M w) (h : RPost M (aForget w) Φ) : Ct l G d mRe_forget bc bs [.ref 206] M Φ := by
  refine Ct.of rfl (Nat.le_of_ble_eq_true rfl) ?_
  have n8 := hw.1
  obtain ⟨hF0, hI0, t0⟩ := hI.t0 hw
  have hS0 := hI0.1
  refine bRe_forget_0 _ _ ⟨hI.1.c, ?_⟩
  rw [hI0.2.2.2.2.2.2.1.1]
  generalize m_si M 206 0 0 = M0 at *
  have hF : FrS (fun a j => a = 206 ∧ j = 27) M0 (m_si M0 206 27 0) := FrS.si ⟨rfl, rfl⟩ _
  refine h _ ((hF0.mono QR.f).tr (hF.mono (fun a j q => by unfold RF; omega))) ?_ (by rw [hF.1 _ _ (by omega)]; exact t0)
  obtain ⟨a1, a2, a3, a4, a5, a6, a7, a8, a9⟩ := id hI0
  refine ⟨a1.fr hF, a2.fr hF (by omega) (fun p j hp => by omega), a3.fr hF (by omega) (fun j => by omega) (fun j => by omega) (fun j => by omega) (fun i j hi => by omega), ⟨by rw [hF.1 _ _ (by omega)]; exact a4.1, by rw [hF.1 _ _ (by omega)]; exact a4.2.1, by rw [hF.1 _ _ (by omega)]; exact a4.2.2⟩, ⟨by rw [hF.1 _ _ (by omega)]; exact a5.1, fun i hi => by rw [hF.1 _ _ (by omega)]; exact a5.2 i hi⟩, by rw [hF.1 _ _ (by omega)]; exact a6, ⟨by rw [m_i_si, if_pos ⟨rfl, rfl⟩]; rfl, fun j hj => by rw [hF.1 _ _ (by omega)]; exact a7.2 j hj⟩, by rw [hF.1 _ _ (by omega)]; exact a8, fun i hi2 => (a9 i hi2).fr hF (fun j => by omega)⟩
theorem ct_r_told (M : Mm) (w : Wd) (hw : WOK w) (hI : RINV M w) (x : Int32) (hd : 1 < d) (h : RPost M (aTold w x) Φ) : Ct l G d mRe_told bc bs [.ref 206, .int x] M Φ := by
  refine Ct.of rfl (Nat.le_of_ble_eq_true rfl) ?_
  have n8 := hw.1
  obtain ⟨hF0, hI0, t0⟩ := hI.t0 hw
  have hS0 := hI0.1
  refine bRe_told_0 _ _ _ ⟨hI.1.c, CallVC.cps0 (by omega) ?_⟩
  generalize m_si M 206 0 0 = M0 at *
  refine ct_inV M0 7 x (fun q1 => ?_) (fun q1 => ?_)
  rotate_left
  · refine bRe_told_13 _ _ _ _ _ ?_
    refine ⟨fun z => ?_, fun z => ?_⟩ <;> first | exact absurd rfl z | exact absurd z (by decide) | skip
    refine ⟨hS0.c, CallVC.cps0 (by omega) (ct_bad1 M0 _ hS0 t0 (by decide) ?_)⟩
    refine bRe_told_25 _ _ _ _ ?_
    refine ⟨fun z => ?_, fun z => ?_⟩ <;> first | exact absurd rfl z | exact absurd z (by decide) | skip
    exact h.fail hw hF0 hI0 (code := 1) rfl (okV_n q1)
  refine bRe_told_13 _ _ _ _ _ ?_
  refine ⟨fun z => ?_, fun z => ?_⟩ <;> first | exact absurd rfl z | exact absurd z (by decide) | skip
  refine ⟨hS0.c, CallVC.cps0 (by omega) (ct_bad0 M0 _ hS0 t0 ?_)⟩
  refine bRe_told_25 _ _ _ _ ?_
  refine ⟨fun z => ?_, fun z => ?_⟩ <;> first | exact absurd rfl z | exact absurd z (by decide) | skip
  obtain ⟨v, hv, rfl⟩ := (vIn_nI (by omega)).mp q1
  have ha : aTold w (nI v) = (0, if v = 0 then nI (w_n w) else if v = 1 then nI (w_R w).length else w_nu w 0 v, w) := by
    refine (okV_y q1).trans ?_
    rw [tN_nI (by omega)]
  refine ⟨hS0.c, CallVC.cps0 (by omega) ?_⟩
  refine ct_layRules M0 hS0 (w_R w) hI0.2.2.1 hw.2.2.2.2.1 0 (by omega) hI0.2.2.2.1.1 (fun M1 hF1 hL1 => ?_)
  have hF1r : FrS QR M0 M1 := hF1.mono (fun a j q => by unfold QR; omega)
  have hI1 := hI0.fr hw hF1r
  have t1 : m_i M1 206 0 = 0 := by rw [hF1.1 _ _ (by omega)]; exact t0
  have hS1 := hI1.1
  have hn : ∀ k, k < 6 → ∀ (pc : Nat) (hb : ∀ s0, Φ (.inl (some (.int s0))) M1 → Ev l G d mRe_told pc [.ref 206, .int (nI v)] [.int s0] M1 bc bs Φ), v = k + 2 → CallVC l G d mRe_told pc [.ref 206, .int (nI v)] [] mRe_numberOf [.ref 206, .int (nI k), .int (nuS (w_R w) 0 0 (k + 2))] M1 bc bs Φ := fun k hk pc hb e => by
    refine CallVC.cps0 (by omega) (ct_numberOf M1 hS1 (w_R w) hI1.2.2.1 0 hL1 k hk ?_)
    refine hb _ (h.done hw (hF0.tr hF1r) hI1 t1 ?_)
    rw [ha, if_neg (by omega), if_neg (by omega), e]
    rfl
  refine bRe_told_34 _ _ _ ?_
  have ne : ∀ k, nI v = nI k → k < 8 → v = k := fun k e hk => (nI_eq (by omega) (by omega)).mp e
  refine ⟨fun z => ⟨hS1.c, ?_⟩, fun z => ⟨hS1.c, ?_⟩, fun z => ⟨hS1.c, hn 0 (by omega) _ (fun s0 hs => bRe_told_92 _ _ _ _ hs) (ne 2 z (by omega))⟩, fun z => ⟨hS1.c, hn 1 (by omega) _ (fun s0 hs => bRe_told_99 _ _ _ _ hs) (ne 3 z (by omega))⟩, fun z => ⟨hS1.c, hn 2 (by omega) _ (fun s0 hs => bRe_told_106 _ _ _ _ hs) (ne 4 z (by omega))⟩, fun z => ⟨hS1.c, hn 3 (by omega) _ (fun s0 hs => bRe_told_115 _ _ _ _ hs) (ne 5 z (by omega))⟩, fun z => ⟨hS1.c, hn 4 (by omega) _ (fun s0 hs => bRe_told_122 _ _ _ _ hs) (ne 6 z (by omega))⟩, fun z0 z1 z2 z3 z4 z5 z6 => ⟨hS1.c, hn 5 (by omega) _ (fun s0 hs => bRe_told_129 _ _ _ _ hs) ?_⟩⟩
  · rw [hI1.2.1.1]
    have := ne 0 z (by omega)
    exact h.done hw (hF0.tr hF1r) hI1 t1 (by rw [ha, if_pos this])
  · rw [hI1.2.2.1.1]
    have := ne 1 z (by omega)
    exact h.done hw (hF0.tr hF1r) hI1 t1 (by rw [ha, if_neg (by omega), if_pos this])
  · have nk : ∀ k, ¬ nI v = nI k → v ≠ k := fun k hz e => hz (by rw [e])
    have := nk 0 z0
    have := nk 1 z1
    have := nk 2 z2
    have := nk 3 z3
    have := nk 4 z4
    have := nk 5 z5
    have := nk 6 z6
    omega
theorem ct_r_person (M : Mm) (w : Wd) (hw : WOK w) (hI : RINV M w) (x y : Int32) (hd : 1 < d) (h : RPost M (aPerson w x y) Φ) : Ct l G d mRe_person bc bs [.ref 206, .int x, .int y] M Φ := by
  refine Ct.of rfl (Nat.le_of_ble_eq_true rfl) ?_
  have n8 := hw.1
  obtain ⟨hF0, hI0, t0⟩ := hI.t0 hw
  have hS0 := hI0.1
  refine bRe_person_0 _ _ _ _ ⟨hI.1.c, CallVC.cps0 (by omega) ?_⟩
  generalize m_si M 206 0 0 = M0 at *
  refine ct_isPerson M0 w hw hI0 x (by omega) (fun q1 => ?_) (fun q1 => ?_)
  rotate_left
  · refine bRe_person_11 _ _ _ _ _ _ ?_
    refine ⟨fun z => ?_, fun z => ?_⟩ <;> first | exact absurd rfl z | exact absurd z (by decide) | skip
    refine ⟨hS0.c, CallVC.cps0 (by omega) (ct_bad1 M0 _ hS0 t0 (by decide) ?_)⟩
    refine bRe_person_23 _ _ _ _ _ ?_
    refine ⟨fun z => ?_, fun z => ?_⟩ <;> first | exact absurd rfl z | exact absurd z (by decide) | skip
    exact h.fail hw hF0 hI0 (code := 1) rfl (okP_n q1)
  refine bRe_person_11 _ _ _ _ _ _ ?_
  refine ⟨fun z => ?_, fun z => ?_⟩ <;> first | exact absurd rfl z | exact absurd z (by decide) | skip
  refine ⟨hS0.c, CallVC.cps0 (by omega) (ct_bad0 M0 _ hS0 t0 ?_)⟩
  refine bRe_person_23 _ _ _ _ _ ?_
  refine ⟨fun z => ?_, fun z => ?_⟩ <;> first | exact absurd rfl z | exact absurd z (by decide) | skip
  refine CallVC.cps0 (by omega) ?_
  refine ct_inV M0 7 y (fun q2 => ?_) (fun q2 => ?_)
  rotate_left
  · refine bRe_person_34 _ _ _ _ _ _ ?_
    refine ⟨fun z => ?_, fun z => ?_⟩ <;> first | exact absurd rfl z | exact absurd z (by decide) | skip
    refine ⟨hS0.c, CallVC.cps0 (by omega) (ct_bad1 M0 _ hS0 t0 (by decide) ?_)⟩
    refine bRe_person_46 _ _ _ _ _ ?_
    refine ⟨fun z => ?_, fun z => ?_⟩ <;> first | exact absurd rfl z | exact absurd z (by decide) | skip
    exact h.fail hw hF0 hI0 (code := 2) rfl ((okP_y q1).trans (okV_n q2))
  refine bRe_person_34 _ _ _ _ _ _ ?_
  refine ⟨fun z => ?_, fun z => ?_⟩ <;> first | exact absurd rfl z | exact absurd z (by decide) | skip
  refine ⟨hS0.c, CallVC.cps0 (by omega) (ct_bad0 M0 _ hS0 t0 ?_)⟩
  refine bRe_person_46 _ _ _ _ _ ?_
  refine ⟨fun z => ?_, fun z => ?_⟩ <;> first | exact absurd rfl z | exact absurd z (by decide) | skip
  obtain ⟨p, hp, rfl⟩ := (pIn_nI n8).mp q1
  obtain ⟨v, hv, rfl⟩ := (vIn_nI (by omega)).mp q2
  have e := hI0.2.1.2.2 p v hp (by omega)
  simp (disch := omega) only [hS0.c, hS0.r_fed, hS0.s_fed, hS0.r_rKind, hS0.s_rKind, hS0.r_kind, hS0.s_kind, hS0.r_rNum, hS0.s_rNum, hS0.r_num, hS0.s_num, hS0.r_rLong, hS0.s_rLong, hS0.r_cLong, hS0.s_cLong, hS0.r_stack, hS0.s_stack, hS0.r_names, hS0.s_names, hS0.r_row, hS0.s_row, hS0.r_ruleOf, hS0.s_ruleOf, hS0.r_ways, hS0.s_ways, hS0.r_cWho, hS0.s_cWho, hS0.r_cMin, hS0.s_cMin, hS0.r_cOff, hS0.s_cOff, hS0.r_cTh, hS0.s_cTh, hS0.r_cEnd, hS0.s_cEnd, hS0.r_hds, hS0.s_hds, hS0.r_ends, hS0.s_ends, hS0.r_there, hS0.s_there, hS0.r_offd, hS0.s_offd, hS0.r_had, hS0.s_had, hS0.r_rPer, hS0.s_rPer, hS0.r_rP, hS0.s_rP, hS0.r_per, hS0.s_per, hS0.r_pr, hS0.s_pr, hS0.r_rCode, hS0.s_rCode, hS0.r_rC, hS0.s_rC, hS0.r_code, hS0.s_code, hS0.r_cd, hS0.s_cd, hS0.r_kept, hS0.s_kept, hS0.r_kp, hS0.s_kp, hS0.r_holder, hS0.s_holder, hS0.r_hd, hS0.s_hd, hS0.r_pass, hS0.s_pass, hS0.r_ps, hS0.s_ps, hS0.r_debt, hS0.s_debt, hS0.r_db, hS0.s_db, hS0.r_endBy, hS0.s_endBy, hS0.r_eb, hS0.s_eb, vpT, vpk0, clk0, vpk1, clk1, vpk2, clk2, vpk3, clk3, vpk4, clk4, vpk5, clk5, vpk6, clk6, vpk7, clk7, vpk8, clk8, vpk9, clk9, nI_clamp, nI_1, true_and, e]
  refine h.done hw hF0 hI0 t0 (((okP_y q1).trans (okV_y q2)).trans ?_)
  rw [tN_nI (by omega), tN_nI (by omega)]
theorem ct_r_way (M : Mm) (w : Wd) (hw : WOK w) (hI : RINV M w) (x y : Int32) (hd : 1 < d) (h : RPost M (aWay w x y) Φ) : Ct l G d mRe_way bc bs [.ref 206, .int x, .int y] M Φ := by
  refine Ct.of rfl (Nat.le_of_ble_eq_true rfl) ?_
  have n8 := hw.1
  obtain ⟨hF0, hI0, t0⟩ := hI.t0 hw
  have hS0 := hI0.1
  refine bRe_way_0 _ _ _ _ ⟨hI.1.c, CallVC.cps0 (by omega) ?_⟩
  generalize m_si M 206 0 0 = M0 at *
  refine ct_isPerson M0 w hw hI0 x (by omega) (fun q1 => ?_) (fun q1 => ?_)
  rotate_left
  · refine bRe_way_11 _ _ _ _ _ _ _ ?_
    refine ⟨fun z => ?_, fun z => ?_⟩ <;> first | exact absurd rfl z | exact absurd z (by decide) | skip
    refine ⟨hS0.c, CallVC.cps0 (by omega) (ct_bad1 M0 _ hS0 t0 (by decide) ?_)⟩
    refine bRe_way_23 _ _ _ _ _ _ ?_
    refine ⟨fun z => ?_, fun z => ?_⟩ <;> first | exact absurd rfl z | exact absurd z (by decide) | skip
    exact h.fail hw hF0 hI0 (code := 1) rfl (okP_n q1)
  refine bRe_way_11 _ _ _ _ _ _ _ ?_
  refine ⟨fun z => ?_, fun z => ?_⟩ <;> first | exact absurd rfl z | exact absurd z (by decide) | skip
  refine ⟨hS0.c, CallVC.cps0 (by omega) (ct_bad0 M0 _ hS0 t0 ?_)⟩
  refine bRe_way_23 _ _ _ _ _ _ ?_
  refine ⟨fun z => ?_, fun z => ?_⟩ <;> first | exact absurd rfl z | exact absurd z (by decide) | skip
  refine CallVC.cps0 (by omega) ?_
  refine ct_inV M0 4 y (fun q2 => ?_) (fun q2 => ?_)
  rotate_left
  · refine bRe_way_33 _ _ _ _ _ _ _ ?_
    refine ⟨fun z => ?_, fun z => ?_⟩ <;> first | exact absurd rfl z | exact absurd z (by decide) | skip
    refine ⟨hS0.c, CallVC.cps0 (by omega) (ct_bad1 M0 _ hS0 t0 (by decide) ?_)⟩
    refine bRe_way_45 _ _ _ _ _ _ ?_
    refine ⟨fun z => ?_, fun z => ?_⟩ <;> first | exact absurd rfl z | exact absurd z (by decide) | skip
    exact h.fail hw hF0 hI0 (code := 2) rfl ((okP_y q1).trans (okV_n q2))
  refine bRe_way_33 _ _ _ _ _ _ _ ?_
  refine ⟨fun z => ?_, fun z => ?_⟩ <;> first | exact absurd rfl z | exact absurd z (by decide) | skip
  refine ⟨hS0.c, CallVC.cps0 (by omega) (ct_bad0 M0 _ hS0 t0 ?_)⟩
  refine bRe_way_45 _ _ _ _ _ _ ?_
  refine ⟨fun z => ?_, fun z => ?_⟩ <;> first | exact absurd rfl z | exact absurd z (by decide) | skip
  obtain ⟨p, hp, rfl⟩ := (pIn_nI n8).mp q1
  obtain ⟨v, hv, rfl⟩ := (vIn_nI (by omega)).mp q2
  have e := hI0.2.1.2.2 p 5 hp (by omega)
  simp (disch := omega) only [hS0.c, hS0.r_fed, hS0.s_fed, hS0.r_rKind, hS0.s_rKind, hS0.r_kind, hS0.s_kind, hS0.r_rNum, hS0.s_rNum, hS0.r_num, hS0.s_num, hS0.r_rLong, hS0.s_rLong, hS0.r_cLong, hS0.s_cLong, hS0.r_stack, hS0.s_stack, hS0.r_names, hS0.s_names, hS0.r_row, hS0.s_row, hS0.r_ruleOf, hS0.s_ruleOf, hS0.r_ways, hS0.s_ways, hS0.r_cWho, hS0.s_cWho, hS0.r_cMin, hS0.s_cMin, hS0.r_cOff, hS0.s_cOff, hS0.r_cTh, hS0.s_cTh, hS0.r_cEnd, hS0.s_cEnd, hS0.r_hds, hS0.s_hds, hS0.r_ends, hS0.s_ends, hS0.r_there, hS0.s_there, hS0.r_offd, hS0.s_offd, hS0.r_had, hS0.s_had, hS0.r_rPer, hS0.s_rPer, hS0.r_rP, hS0.s_rP, hS0.r_per, hS0.s_per, hS0.r_pr, hS0.s_pr, hS0.r_rCode, hS0.s_rCode, hS0.r_rC, hS0.s_rC, hS0.r_code, hS0.s_code, hS0.r_cd, hS0.s_cd, hS0.r_kept, hS0.s_kept, hS0.r_kp, hS0.s_kp, hS0.r_holder, hS0.s_holder, hS0.r_hd, hS0.s_hd, hS0.r_pass, hS0.s_pass, hS0.r_ps, hS0.s_ps, hS0.r_debt, hS0.s_debt, hS0.r_db, hS0.s_db, hS0.r_endBy, hS0.s_endBy, hS0.r_eb, hS0.s_eb, vpT, vpk0, clk0, vpk1, clk1, vpk2, clk2, vpk3, clk3, vpk4, clk4, vpk5, clk5, vpk6, clk6, vpk7, clk7, vpk8, clk8, vpk9, clk9, nI_clamp, nI_1, true_and, e]
  have ha : aWay w (nI p) (nI v) = (0, w_f w p 5, ws_F w (upd2 (w_F w) p 5 v)) := by
    refine ((okP_y q1).trans (okV_y q2)).trans ?_
    rw [tN_nI (by omega), tN_nI (by omega)]
  rw [ha] at h
  exact h _ ((hF0.mono QR.f).tr (FrS.si (by unfold RF; omega) _)) (hI0.setF hw hp (by omega)) (by rw [m_i_si, if_neg (by omega)]; exact t0)
theorem ct_r_until (M : Mm) (w : Wd) (hw : WOK w) (hI : RINV M w) (x y : Int32) (hd : 1 < d) (h : RPost M (aUntil w x y) Φ) : Ct l G d mRe_until bc bs [.ref 206, .int x, .int y] M Φ := by
  refine Ct.of rfl (Nat.le_of_ble_eq_true rfl) ?_
  have n8 := hw.1
  obtain ⟨hF0, hI0, t0⟩ := hI.t0 hw
  have hS0 := hI0.1
  refine bRe_until_0 _ _ _ _ ⟨hI.1.c, CallVC.cps0 (by omega) ?_⟩
  generalize m_si M 206 0 0 = M0 at *
  refine ct_isPerson M0 w hw hI0 x (by omega) (fun q1 => ?_) (fun q1 => ?_)
  rotate_left
  · refine bRe_until_11 _ _ _ _ _ _ _ ?_
    refine ⟨fun z => ?_, fun z => ?_⟩ <;> first | exact absurd rfl z | exact absurd z (by decide) | skip
    refine ⟨hS0.c, CallVC.cps0 (by omega) (ct_bad1 M0 _ hS0 t0 (by decide) ?_)⟩
    refine bRe_until_23 _ _ _ _ _ _ ?_
    refine ⟨fun z => ?_, fun z => ?_⟩ <;> first | exact absurd rfl z | exact absurd z (by decide) | skip
    exact h.fail hw hF0 hI0 (code := 1) rfl (okP_n q1)
  refine bRe_until_11 _ _ _ _ _ _ _ ?_
  refine ⟨fun z => ?_, fun z => ?_⟩ <;> first | exact absurd rfl z | exact absurd z (by decide) | skip
  refine ⟨hS0.c, CallVC.cps0 (by omega) (ct_bad0 M0 _ hS0 t0 ?_)⟩
  refine bRe_until_23 _ _ _ _ _ _ ?_
  refine ⟨fun z => ?_, fun z => ?_⟩ <;> first | exact absurd rfl z | exact absurd z (by decide) | skip
  refine CallVC.cps0 (by omega) ?_
  refine ct_inV M0 99 y (fun q2 => ?_) (fun q2 => ?_)
  rotate_left
  · refine bRe_until_34 _ _ _ _ _ _ _ ?_
    refine ⟨fun z => ?_, fun z => ?_⟩ <;> first | exact absurd rfl z | exact absurd z (by decide) | skip
    refine ⟨hS0.c, CallVC.cps0 (by omega) (ct_bad1 M0 _ hS0 t0 (by decide) ?_)⟩
    refine bRe_until_46 _ _ _ _ _ _ ?_
    refine ⟨fun z => ?_, fun z => ?_⟩ <;> first | exact absurd rfl z | exact absurd z (by decide) | skip
    exact h.fail hw hF0 hI0 (code := 2) rfl ((okP_y q1).trans (okV_n q2))
  refine bRe_until_34 _ _ _ _ _ _ _ ?_
  refine ⟨fun z => ?_, fun z => ?_⟩ <;> first | exact absurd rfl z | exact absurd z (by decide) | skip
  refine ⟨hS0.c, CallVC.cps0 (by omega) (ct_bad0 M0 _ hS0 t0 ?_)⟩
  refine bRe_until_46 _ _ _ _ _ _ ?_
  refine ⟨fun z => ?_, fun z => ?_⟩ <;> first | exact absurd rfl z | exact absurd z (by decide) | skip
  obtain ⟨p, hp, rfl⟩ := (pIn_nI n8).mp q1
  obtain ⟨v, hv, rfl⟩ := (vIn_nI (by omega)).mp q2
  have e := hI0.2.1.2.2 p 6 hp (by omega)
  simp (disch := omega) only [hS0.c, hS0.r_fed, hS0.s_fed, hS0.r_rKind, hS0.s_rKind, hS0.r_kind, hS0.s_kind, hS0.r_rNum, hS0.s_rNum, hS0.r_num, hS0.s_num, hS0.r_rLong, hS0.s_rLong, hS0.r_cLong, hS0.s_cLong, hS0.r_stack, hS0.s_stack, hS0.r_names, hS0.s_names, hS0.r_row, hS0.s_row, hS0.r_ruleOf, hS0.s_ruleOf, hS0.r_ways, hS0.s_ways, hS0.r_cWho, hS0.s_cWho, hS0.r_cMin, hS0.s_cMin, hS0.r_cOff, hS0.s_cOff, hS0.r_cTh, hS0.s_cTh, hS0.r_cEnd, hS0.s_cEnd, hS0.r_hds, hS0.s_hds, hS0.r_ends, hS0.s_ends, hS0.r_there, hS0.s_there, hS0.r_offd, hS0.s_offd, hS0.r_had, hS0.s_had, hS0.r_rPer, hS0.s_rPer, hS0.r_rP, hS0.s_rP, hS0.r_per, hS0.s_per, hS0.r_pr, hS0.s_pr, hS0.r_rCode, hS0.s_rCode, hS0.r_rC, hS0.s_rC, hS0.r_code, hS0.s_code, hS0.r_cd, hS0.s_cd, hS0.r_kept, hS0.s_kept, hS0.r_kp, hS0.s_kp, hS0.r_holder, hS0.s_holder, hS0.r_hd, hS0.s_hd, hS0.r_pass, hS0.s_pass, hS0.r_ps, hS0.s_ps, hS0.r_debt, hS0.s_debt, hS0.r_db, hS0.s_db, hS0.r_endBy, hS0.s_endBy, hS0.r_eb, hS0.s_eb, vpT, vpk0, clk0, vpk1, clk1, vpk2, clk2, vpk3, clk3, vpk4, clk4, vpk5, clk5, vpk6, clk6, vpk7, clk7, vpk8, clk8, vpk9, clk9, nI_clamp, nI_1, true_and, e]
  have ha : aUntil w (nI p) (nI v) = (0, w_f w p 6, ws_F w (upd2 (w_F w) p 6 v)) := by
    refine ((okP_y q1).trans (okV_y q2)).trans ?_
    rw [tN_nI (by omega), tN_nI (by omega)]
  rw [ha] at h
  exact h _ ((hF0.mono QR.f).tr (FrS.si (by unfold RF; omega) _)) (hI0.setF hw hp (by omega)) (by rw [m_i_si, if_neg (by omega)]; exact t0)
theorem ct_r_tell (M : Mm) (w : Wd) (hw : WOK w) (hI : RINV M w) (x : Int32) (hd : 1 < d) (h : RPost M (aTell w x) Φ) : Ct l G d mRe_tell bc bs [.ref 206, .int x] M Φ := by
  refine Ct.of rfl (Nat.le_of_ble_eq_true rfl) ?_
  have n8 := hw.1
  obtain ⟨hF0, hI0, t0⟩ := hI.t0 hw
  have hS0 := hI0.1
  refine bRe_tell_0 _ _ _ ⟨hI.1.c, CallVC.cps0 (by omega) ?_⟩
  generalize m_si M 206 0 0 = M0 at *
  refine ct_isPerson M0 w hw hI0 x (by omega) (fun q1 => ?_) (fun q1 => ?_)
  rotate_left
  · refine bRe_tell_11 _ _ _ _ _ ?_
    refine ⟨fun z => ?_, fun z => ?_⟩ <;> first | exact absurd rfl z | exact absurd z (by decide) | skip
    refine ⟨hS0.c, CallVC.cps0 (by omega) (ct_bad1 M0 _ hS0 t0 (by decide) ?_)⟩
    refine bRe_tell_23 _ _ _ _ ?_
    refine ⟨fun z => ?_, fun z => ?_⟩ <;> first | exact absurd rfl z | exact absurd z (by decide) | skip
    exact h.fail hw hF0 hI0 (code := 1) rfl (okP_n q1)
  refine bRe_tell_11 _ _ _ _ _ ?_
  refine ⟨fun z => ?_, fun z => ?_⟩ <;> first | exact absurd rfl z | exact absurd z (by decide) | skip
  refine ⟨hS0.c, CallVC.cps0 (by omega) (ct_bad0 M0 _ hS0 t0 ?_)⟩
  refine bRe_tell_23 _ _ _ _ ?_
  refine ⟨fun z => ?_, fun z => ?_⟩ <;> first | exact absurd rfl z | exact absurd z (by decide) | skip
  obtain ⟨a1, a2, a3, a4, a5, a6, a7, a8, a9⟩ := id hI0
  have hs8 := hw.2.2.2.2.2.2.2.1
  have e27 := a7.1
  have e8 : nI (w_ss w) = 8 ↔ w_ss w = 8 := nI_eq (b := 8) (by omega) (by omega)
  refine ⟨hS0.c, ?_⟩
  rw [e27, e8]
  refine ⟨fun z => ?_, fun z => h.done hw hF0 hI0 t0 ((okP_y q1).trans (if_pos z))⟩
  simp (disch := omega) only [hS0.c, hS0.r_fed, hS0.s_fed, hS0.r_rKind, hS0.s_rKind, hS0.r_kind, hS0.s_kind, hS0.r_rNum, hS0.s_rNum, hS0.r_num, hS0.s_num, hS0.r_rLong, hS0.s_rLong, hS0.r_cLong, hS0.s_cLong, hS0.r_stack, hS0.s_stack, hS0.r_names, hS0.s_names, hS0.r_row, hS0.s_row, hS0.r_ruleOf, hS0.s_ruleOf, hS0.r_ways, hS0.s_ways, hS0.r_cWho, hS0.s_cWho, hS0.r_cMin, hS0.s_cMin, hS0.r_cOff, hS0.s_cOff, hS0.r_cTh, hS0.s_cTh, hS0.r_cEnd, hS0.s_cEnd, hS0.r_hds, hS0.s_hds, hS0.r_ends, hS0.s_ends, hS0.r_there, hS0.s_there, hS0.r_offd, hS0.s_offd, hS0.r_had, hS0.s_had, hS0.r_rPer, hS0.s_rPer, hS0.r_rP, hS0.s_rP, hS0.r_per, hS0.s_per, hS0.r_pr, hS0.s_pr, hS0.r_rCode, hS0.s_rCode, hS0.r_rC, hS0.s_rC, hS0.r_code, hS0.s_code, hS0.r_cd, hS0.s_cd, hS0.r_kept, hS0.s_kept, hS0.r_kp, hS0.s_kp, hS0.r_holder, hS0.s_holder, hS0.r_hd, hS0.s_hd, hS0.r_pass, hS0.s_pass, hS0.r_ps, hS0.s_ps, hS0.r_debt, hS0.s_debt, hS0.r_db, hS0.s_db, hS0.r_endBy, hS0.s_endBy, hS0.r_eb, hS0.s_eb, vpT, vpk0, clk0, vpk1, clk1, vpk2, clk2, vpk3, clk3, vpk4, clk4, vpk5, clk5, vpk6, clk6, vpk7, clk7, vpk8, clk8, vpk9, clk9, nI_clamp, nI_1, true_and]
  rw [m_i_si, if_neg (by omega), e27, nI_1]
  have hF : FrS (fun a j => a = 256 ∨ (a = 206 ∧ j = 27)) M0 (m_si (m_si M0 256 (w_ss w) x) 206 27 (nI (w_ss w + 1))) := (FrS.si (Or.inl rfl) _).tr (FrS.si (Or.inr ⟨rfl, rfl⟩) _)
  have y27 : m_i (m_si (m_si M0 256 (w_ss w) x) 206 27 (nI (w_ss w + 1))) 206 27 = nI (w_ss w + 1) := by rw [m_i_si, if_pos ⟨rfl, rfl⟩]
  have yr : ∀ j, m_i (m_si (m_si M0 256 (w_ss w) x) 206 27 (nI (w_ss w + 1))) 256 j = if j = w_ss w then x else m_i M0 256 j := fun j => by
    rw [m_i_si, if_neg (by omega), m_i_si]
    by_cases y : j = w_ss w
    · rw [if_pos ⟨rfl, y⟩, if_pos y]
    · rw [if_neg (fun q => y q.2), if_neg y]
  generalize m_si (m_si M0 256 (w_ss w) x) 206 27 (nI (w_ss w + 1)) = M1 at *
  refine bRe_tell_59 _ _ _ ⟨(hS0.fr hF).c, ?_⟩
  rw [y27]
  have ha : aTell w x = (0, nI (w_ss w + 1), ws_sr w (fun j => if j = w_ss w then x else w_sr w j) (w_ss w + 1)) := (okP_y q1).trans (if_neg z)
  rw [ha] at h
  refine h _ ((hF0.mono QR.f).tr (hF.mono (fun a j q => by unfold RF; omega))) ?_ (by rw [hF.1 _ _ (by omega)]; exact t0)
  refine ⟨a1.fr hF, a2.fr hF (by omega) (fun p j hp => by omega), a3.fr hF (by omega) (fun j => by omega) (fun j => by omega) (fun j => by omega) (fun i j hi => by omega), ⟨by rw [hF.1 _ _ (by omega)]; exact a4.1, by rw [hF.1 _ _ (by omega)]; exact a4.2.1, by rw [hF.1 _ _ (by omega)]; exact a4.2.2⟩, ⟨by rw [hF.1 _ _ (by omega)]; exact a5.1, fun i hi => by rw [hF.1 _ _ (by omega)]; exact a5.2 i hi⟩, by rw [hF.1 _ _ (by omega)]; exact a6, ⟨y27, fun j hj => ?_⟩, by rw [hF.1 _ _ (by omega)]; exact a8, fun i hi2 => (a9 i hi2).fr hF (fun j => by omega)⟩
  show _ = if j = w_ss w then x else w_sr w j
  rw [yr, a7.2 j hj]
theorem ct_r_ends (M : Mm) (w : Wd) (hw : WOK w) (hI : RINV M w) (x : Int32) (hd : 7 < d) (h : RPost M (aEnds w x) Φ) : Ct l G d mRe_ends bc bs [.ref 206, .int x] M Φ := by
  refine Ct.of rfl (Nat.le_of_ble_eq_true rfl) ?_
  have n8 := hw.1
  obtain ⟨hF0, hI0, t0⟩ := hI.t0 hw
  have hS0 := hI0.1
  refine bRe_ends_0 _ _ _ ⟨hI.1.c, CallVC.cps0 (by omega) ?_⟩
  generalize m_si M 206 0 0 = M0 at *
  refine ct_isPerson M0 w hw hI0 x (by omega) (fun q1 => ?_) (fun q1 => ?_)
  rotate_left
  · refine bRe_ends_11 _ _ _ _ _ ?_
    refine ⟨fun z => ?_, fun z => ?_⟩ <;> first | exact absurd rfl z | exact absurd z (by decide) | skip
    refine ⟨hS0.c, CallVC.cps0 (by omega) (ct_bad1 M0 _ hS0 t0 (by decide) ?_)⟩
    refine bRe_ends_23 _ _ _ _ ?_
    refine ⟨fun z => ?_, fun z => ?_⟩ <;> first | exact absurd rfl z | exact absurd z (by decide) | skip
    exact h.fail hw hF0 hI0 (code := 1) rfl (okP_n q1)
  refine bRe_ends_11 _ _ _ _ _ ?_
  refine ⟨fun z => ?_, fun z => ?_⟩ <;> first | exact absurd rfl z | exact absurd z (by decide) | skip
  refine ⟨hS0.c, CallVC.cps0 (by omega) (ct_bad0 M0 _ hS0 t0 ?_)⟩
  refine bRe_ends_23 _ _ _ _ ?_
  refine ⟨fun z => ?_, fun z => ?_⟩ <;> first | exact absurd rfl z | exact absurd z (by decide) | skip
  refine ⟨hS0.c, CallVC.cps0 (by omega) ?_⟩
  refine ct_asItIsW M0 w hw 0 (by omega) none 0 none 0 0 hI0.rin (fun p q => by cases q) (fun p q => by cases q) (by omega) (fun M1 hF1 hD1 hC1 => ?_)
  obtain ⟨hok, hrk⟩ := day0W_ok hw
  have hF1' := hF0.tr (hF1.mono QY.r)
  have hI1 := hI0.fr hw (hF1.mono QY.r)
  have t1 : m_i M1 206 0 = 0 := by rw [hF1.1 _ _ (by unfold QY QD; omega)]; exact t0
  have hS1 := hI1.1
  replace hD1 : RDs M1 (day0W w) := hD1
  obtain ⟨p, hp, rfl⟩ := (pIn_nI n8).mp q1
  have e := hD1.1.2.2.2.2.2.1 p (by omega)
  refine bRe_ends_32 _ _ _ ?_
  simp (disch := omega) only [hS1.c, hS1.r_fed, hS1.s_fed, hS1.r_rKind, hS1.s_rKind, hS1.r_kind, hS1.s_kind, hS1.r_rNum, hS1.s_rNum, hS1.r_num, hS1.s_num, hS1.r_rLong, hS1.s_rLong, hS1.r_cLong, hS1.s_cLong, hS1.r_stack, hS1.s_stack, hS1.r_names, hS1.s_names, hS1.r_row, hS1.s_row, hS1.r_ruleOf, hS1.s_ruleOf, hS1.r_ways, hS1.s_ways, hS1.r_cWho, hS1.s_cWho, hS1.r_cMin, hS1.s_cMin, hS1.r_cOff, hS1.s_cOff, hS1.r_cTh, hS1.s_cTh, hS1.r_cEnd, hS1.s_cEnd, hS1.r_hds, hS1.s_hds, hS1.r_ends, hS1.s_ends, hS1.r_there, hS1.s_there, hS1.r_offd, hS1.s_offd, hS1.r_had, hS1.s_had, hS1.r_rPer, hS1.s_rPer, hS1.r_rP, hS1.s_rP, hS1.r_per, hS1.s_per, hS1.r_pr, hS1.s_pr, hS1.r_rCode, hS1.s_rCode, hS1.r_rC, hS1.s_rC, hS1.r_code, hS1.s_code, hS1.r_cd, hS1.s_cd, hS1.r_kept, hS1.s_kept, hS1.r_kp, hS1.s_kp, hS1.r_holder, hS1.s_holder, hS1.r_hd, hS1.s_hd, hS1.r_pass, hS1.s_pass, hS1.r_ps, hS1.s_ps, hS1.r_debt, hS1.s_debt, hS1.r_db, hS1.s_db, hS1.r_endBy, hS1.s_endBy, hS1.r_eb, hS1.s_eb, vpT, vpk0, clk0, vpk1, clk1, vpk2, clk2, vpk3, clk3, vpk4, clk4, vpk5, clk5, vpk6, clk6, vpk7, clk7, vpk8, clk8, vpk9, clk9, nI_clamp, nI_1, true_and, e]
  refine h.done hw hF1' hI1 t1 ((okP_y q1).trans ?_)
  rw [tN_nI (by omega)]
theorem ct_r_balance (M : Mm) (w : Wd) (hw : WOK w) (hI : RINV M w) (x : Int32) (hd : 7 < d) (h : RPost M (aBalance w x) Φ) : Ct l G d mRe_balance bc bs [.ref 206, .int x] M Φ := by
  refine Ct.of rfl (Nat.le_of_ble_eq_true rfl) ?_
  have n8 := hw.1
  obtain ⟨hF0, hI0, t0⟩ := hI.t0 hw
  have hS0 := hI0.1
  refine bRe_balance_0 _ _ _ ⟨hI.1.c, CallVC.cps0 (by omega) ?_⟩
  generalize m_si M 206 0 0 = M0 at *
  refine ct_isPerson M0 w hw hI0 x (by omega) (fun q1 => ?_) (fun q1 => ?_)
  rotate_left
  · refine bRe_balance_11 _ _ _ _ _ ?_
    refine ⟨fun z => ?_, fun z => ?_⟩ <;> first | exact absurd rfl z | exact absurd z (by decide) | skip
    refine ⟨hS0.c, CallVC.cps0 (by omega) (ct_bad1 M0 _ hS0 t0 (by decide) ?_)⟩
    refine bRe_balance_23 _ _ _ _ ?_
    refine ⟨fun z => ?_, fun z => ?_⟩ <;> first | exact absurd rfl z | exact absurd z (by decide) | skip
    exact h.fail hw hF0 hI0 (code := 1) rfl (okP_n q1)
  refine bRe_balance_11 _ _ _ _ _ ?_
  refine ⟨fun z => ?_, fun z => ?_⟩ <;> first | exact absurd rfl z | exact absurd z (by decide) | skip
  refine ⟨hS0.c, CallVC.cps0 (by omega) (ct_bad0 M0 _ hS0 t0 ?_)⟩
  refine bRe_balance_23 _ _ _ _ ?_
  refine ⟨fun z => ?_, fun z => ?_⟩ <;> first | exact absurd rfl z | exact absurd z (by decide) | skip
  refine ⟨hS0.c, CallVC.cps0 (by omega) ?_⟩
  refine ct_asItIsW M0 w hw 0 (by omega) none 0 none 0 0 hI0.rin (fun p q => by cases q) (fun p q => by cases q) (by omega) (fun M1 hF1 hD1 hC1 => ?_)
  obtain ⟨hok, hrk⟩ := day0W_ok hw
  have hF1' := hF0.tr (hF1.mono QY.r)
  have hI1 := hI0.fr hw (hF1.mono QY.r)
  have t1 : m_i M1 206 0 = 0 := by rw [hF1.1 _ _ (by unfold QY QD; omega)]; exact t0
  have hS1 := hI1.1
  replace hD1 : RDs M1 (day0W w) := hD1
  obtain ⟨p, hp, rfl⟩ := (pIn_nI n8).mp q1
  refine bRe_balance_32 _ _ _ ⟨hS1.c, CallVC.cps0 (by omega) ?_⟩
  rw [hD1.2]
  refine ct_balanceOf M1 _ (w_R w) 0 hC1 _ hD1.1.2.2.2.2.1 (PBL.idx (cW_ok hw (fun p q => by cases q) (fun p q => by cases q) (fun p hp => (hw.2.1 p hp).2.2.2.2.2.1)).1 hok) p _ (by omega) (by omega) ?_
  refine bRe_balance_41 _ _ _ _ (h.done hw hF1' hI1 t1 ((okP_y q1).trans ?_))
  rw [tN_nI (by omega)]
  rfl
end SRR
