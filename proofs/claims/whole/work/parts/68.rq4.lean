/-! ===== the reference: again, plan, gain ===== -/
def QR2 : Nat → Nat → Prop := fun a j => QR a j ∨ (a = 206 ∧ (j = 33 ∨ j = 34 ∨ j = 37))
theorem QR2.f : ∀ a j, QR2 a j → RF a j := fun a j h => by unfold QR2 QR at h; unfold RF; omega
theorem QR.two : ∀ a j, QR a j → QR2 a j := fun a j h => Or.inl h
theorem RINV.fr2 {M M' : Mm} {w : Wd} (hw : WOK w) (h : RINV M w) (hF : FrS QR2 M M') (e33 : m_i M' 206 33 = 0) (e34 : m_i M' 206 34 = -1) (e37 : m_i M' 206 37 = -1) : RINV M' w := by
  obtain ⟨a1, a2, a3, -, ⟨a7, a8⟩, a9, ⟨a10, a11⟩, a12, a13⟩ := h
  have hT := hw.2.2.2.2.2.1
  have hi := hw.2.2.2.2.2.2.2.2.1
  refine ⟨a1.fr hF, a2.fr hF (by unfold QR2 QR; omega) (fun p j hp => by unfold QR2 QR; omega), a3.fr hF (by unfold QR2 QR; omega) (fun j => by unfold QR2 QR; omega) (fun j => by unfold QR2 QR; omega) (fun j => by unfold QR2 QR; omega) (fun i j hi => by unfold QR2 QR; omega), ⟨e33, e34, e37⟩, ⟨?_, fun i hi => ?_⟩, ?_, ⟨?_, fun j hj => ?_⟩, ?_, fun i hi2 => (a13 i hi2).fr hF (fun j => by unfold QR2 QR; omega)⟩
  · rw [hF.1 _ _ (by unfold QR2 QR; omega)]; exact a7
  · rw [hF.1 _ _ (by unfold QR2 QR; omega)]; exact a8 i hi
  · rw [hF.1 _ _ (by unfold QR2 QR; omega)]; exact a9
  · rw [hF.1 _ _ (by unfold QR2 QR; omega)]; exact a10
  · rw [hF.1 _ _ (by unfold QR2 QR; omega)]; exact a11 j hj
  · rw [hF.1 _ _ (by unfold QR2 QR; omega)]; exact a12
theorem RPost.done2 {M M0 : Mm} {w : Wd} {a : An} {Φ : OutV → Mm → Prop} (h : RPost M a Φ) (hF : FrS QR2 M M0) (hI : RINV M0 w) (t0 : m_i M0 206 0 = 0) {v : Int32} (e : a = (0, v, w)) : Φ (.inl (some (.int v))) M0 := by
  subst e
  exact h _ (hF.mono QR2.f) hI t0
/-- a DAY goes by what it looks up alone -/
def cgR (c c' : Cf) : Prop := c_n c = c_n c' ∧ (∀ p k, k ≠ 5 → c_F c p k = c_F c' p k) ∧ (∀ i, c_by c i = c_by c' i) ∧ (∀ k, c_nu c k = c_nu c' k) ∧ (∀ p q h, c_mu c p q h = c_mu c' p q h) ∧ (∀ p q h, c_wo c p q h = c_wo c' p q h) ∧ c_pl c = c_pl c' ∧ c_pb c = c_pb c' ∧ ∀ k p, k < 2 ^ 30 → wyAt c k p = wyAt c' k p
theorem thN_cg {c c' : Cf} (h2 : ∀ p k, k ≠ 5 → c_F c p k = c_F c' p k) (h3 : ∀ i, c_by c i = c_by c' i) (mm sv : Nat) : ∀ i, thN c mm sv i = thN c' mm sv i
  | 0 => rfl
  | i + 1 => by
    unfold thN okN
    rw [thN_cg h2 h3 mm sv i, h3, h2 _ 0 (by omega), h2 _ 4 (by omega)]
theorem nextN_cg {c c' : Cf} (h2 : ∀ p k, k ≠ 5 → c_F c p k = c_F c' p k) (h3 : ∀ i, c_by c i = c_by c' i) (mm : Nat) : ∀ k i, nextN c mm i k = nextN c' mm i k
  | 0, _ => rfl
  | k + 1, i => by
    unfold nextN
    rw [nextN_cg h2 h3 mm k, h3, h2 _ 0 (by omega)]
theorem minS_cg {c c' : Cf} (h1 : c_n c = c_n c') (h2 : ∀ p k, k ≠ 5 → c_F c p k = c_F c' p k) (h3 : ∀ i, c_by c i = c_by c' i) (h4 : ∀ k, c_nu c k = c_nu c' k) (s : Sg) : minS c s = minS c' s := by
  unfold minS
  rw [h1, thN_cg h2 h3, nextN_cg h2 h3, h4 5]
theorem offT_cg {c c' : Cf} (h : cgR c c') {k : Nat} (hk : k < 2 ^ 30) (bal : Nat → Int32) (L : List Nat) (mm : Nat) : offT c k bal L mm = offT c' k bal L mm := by
  obtain ⟨h1, h2, h3, h4, h5, h6, h7, h8, h9⟩ := h
  funext t u
  unfold offT offS wayOff planOff stopS c_f
  rw [h4 3, h4 4, h5, h7, h8, h9 k _ hk, h2 _ 7 (by omega), h2 _ 6 (by omega), h2 _ 1 (by omega), h2 _ 1 (by omega)]
theorem calS_cg {c c' : Cf} (h : cgR c c') (s : Sg) (hl : (g_cs s).length < 2 ^ 30) (mm : Nat) (L : List Nat) : calS c s mm L = calS c' s mm L := by
  have ho := offT_cg h hl
  obtain ⟨h1, h2, h3, h4, h5, h6, h7, h8, h9⟩ := h
  have hf : fuelS c L = fuelS c' L := by unfold fuelS; rw [h4 3]
  have he : ∀ un off g u, endS c s mm L un off g u = endS c' s mm L un off g u := fun un off g u => by
    unfold endS c_f
    simp only [h4 6, h2 _ 3 (show 3 ≠ 5 by omega), h6]
  unfold calS
  rw [ho, hf, h4 2, h4 7]
  simp only [he]
theorem calS_len (c : Cf) (s : Sg) (mm : Nat) (L : List Nat) : (g_cs (calS c s mm L)).length = (g_cs s).length + 1 := by
  unfold calS
  split
  · show (g_cs s ++ [_]).length = _
    rw [List.length_append]; rfl
  · split <;> (show (g_cs s ++ [_]).length = _; rw [List.length_append]; rfl)
theorem dayS_cg {c c' : Cf} (h : cgR c c') : ∀ j s, (g_cs s).length + j < 2 ^ 30 → dayS c j s = dayS c' j s
  | 0, _, _ => rfl
  | j + 1, s, hl => by
    cases hel : g_el s with
    | true => rw [dayS_el _ j hel, dayS_el _ j hel]
    | false =>
      have hmin := minS_cg h.1 h.2.1 h.2.2.1 h.2.2.2.1 s
      cases hm : minS c s with
      | none =>
        rw [dayS_none _ j hel hm]
        rw [hmin] at hm
        rw [dayS_none _ j hel hm]
      | some mm =>
        rw [dayS_some _ j hel hm]
        rw [hmin] at hm
        rw [dayS_some _ j hel hm, calS_cg h s (by omega), thN_cg h.2.1 h.2.2.1, h.1]
        exact dayS_cg h j _ (by rw [calS_len]; omega)
/-- to turn at the first CALL is to have the WAY -/
theorem dyW_turn (w : Wd) (out p v : Nat) : dyW w out none 0 (some p) 0 v (fun q => w_F w q 5) = dyW w out none 0 none 0 0 (fun q => if q = p then v else w_F w q 5) := by
  unfold dyW
  refine dayS_cg ?_ 8 g0 (by show 0 + 8 < _; omega)
  refine ⟨rfl, fun _ _ _ => rfl, fun _ => rfl, fun _ => rfl, fun _ _ _ => rfl, fun _ _ _ => rfl, rfl, rfl, fun k q hk => ?_⟩
  show (if some p = some q ∧ (0 : Int32) ≤ nI k then v else w_F w q 5) = if none = some q ∧ (0 : Int32) ≤ nI k then 0 else (if q = p then v else w_F w q 5)
  rw [if_neg (fun z : none = some q ∧ (0 : Int32) ≤ nI k => by cases z.1)]
  by_cases z : q = p
  · rw [if_pos z, if_pos ⟨by rw [z], nI_le (a := 0) (by omega) (by omega)⟩]
  · rw [if_neg z, if_neg (fun y => z (Option.some.inj y.1).symm)]
section SRV
variable {l : Launch} {G : Gx} {d : Nat} {bc bs : Nat} {Φ : OutV → Mm → Prop}
theorem ct_planEnds (M : Mm) (w : Wd) (hw : WOK w) (hI : RINV M w) (p : Nat) (hp : p < w_n w) (bits : Int32) (hd : 7 < d) (h : ∀ M', FrS QR2 M M' → RINV M' w → m_i M' 206 0 = m_i M 206 0 → Φ (.inl (some (.int (planV w p bits)))) M') : Ct l G d mRe_planEnds bc bs [.ref 206, .int (nI p), .int bits] M Φ := by
  have n8 := hw.1
  have hS := hI.1
  refine Ct.of rfl (Nat.le_of_ble_eq_true rfl) ?_
  refine bRe_planEnds_0 _ _ _ _ ⟨hS.c, ?_⟩
  have hF1 : FrS (fun a j => a = 206 ∧ (j = 34 ∨ j = 35)) M (m_si (m_si M 206 34 (nI p)) 206 35 bits) := (FrS.si ⟨rfl, Or.inl rfl⟩ _).tr (FrS.si ⟨rfl, Or.inr rfl⟩ _)
  have y34 : m_i (m_si (m_si M 206 34 (nI p)) 206 35 bits) 206 34 = nI p := by rw [m_i_si, if_neg (by omega), m_i_si, if_pos ⟨rfl, rfl⟩]
  have y35 : m_i (m_si (m_si M 206 34 (nI p)) 206 35 bits) 206 35 = bits := by rw [m_i_si, if_pos ⟨rfl, rfl⟩]
  generalize m_si (m_si M 206 34 (nI p)) 206 35 bits = M1 at *
  obtain ⟨a1, a2, a3, a4, a5, a6, a7, a8⟩ := hI.rin
  have hR1 : RIN M1 w 0 (some p) bits none 0 0 := ⟨a1.fr hF1, a2.fr hF1 (by omega) (fun p j hp => by omega), a3.fr hF1 (by omega) (fun j => by omega) (fun j => by omega) (fun j => by omega) (fun i j hi => by omega), by rw [hF1.1 _ _ (by omega)]; exact a4, y34, fun _ _ => y35, by rw [hF1.1 _ _ (by omega)]; exact a7, (fun p q => by cases q)⟩
  refine bRe_planEnds_10 _ _ _ _ ⟨hR1.1.c, CallVC.cps0 (by omega) ?_⟩
  refine ct_asItIsW M1 w hw 0 (by omega) (some p) bits none 0 0 hR1 (fun q e => by cases e; exact hp) (fun p q => by cases q) (by omega) (fun M2 hF2 hD2 hC2 => ?_)
  have hS2 := hC2.1
  refine bRe_planEnds_14 _ _ _ _ ?_
  have e : m_i (m_si M2 206 34 (-1)) 269 p = planV w p bits := by rw [m_i_si, if_neg (by omega)]; exact hD2.1.2.2.2.2.2.1 p (by omega)
  simp (disch := omega) only [hS2.c, hS2.r_fed, hS2.s_fed, hS2.r_rKind, hS2.s_rKind, hS2.r_kind, hS2.s_kind, hS2.r_rNum, hS2.s_rNum, hS2.r_num, hS2.s_num, hS2.r_rLong, hS2.s_rLong, hS2.r_cLong, hS2.s_cLong, hS2.r_stack, hS2.s_stack, hS2.r_names, hS2.s_names, hS2.r_row, hS2.s_row, hS2.r_ruleOf, hS2.s_ruleOf, hS2.r_ways, hS2.s_ways, hS2.r_cWho, hS2.s_cWho, hS2.r_cMin, hS2.s_cMin, hS2.r_cOff, hS2.s_cOff, hS2.r_cTh, hS2.s_cTh, hS2.r_cEnd, hS2.s_cEnd, hS2.r_hds, hS2.s_hds, hS2.r_ends, hS2.s_ends, hS2.r_there, hS2.s_there, hS2.r_offd, hS2.s_offd, hS2.r_had, hS2.s_had, hS2.r_rPer, hS2.s_rPer, hS2.r_rP, hS2.s_rP, hS2.r_per, hS2.s_per, hS2.r_pr, hS2.s_pr, hS2.r_rCode, hS2.s_rCode, hS2.r_rC, hS2.s_rC, hS2.r_code, hS2.s_code, hS2.r_cd, hS2.s_cd, hS2.r_kept, hS2.s_kept, hS2.r_kp, hS2.s_kp, hS2.r_holder, hS2.s_holder, hS2.r_hd, hS2.s_hd, hS2.r_pass, hS2.s_pass, hS2.r_ps, hS2.s_ps, hS2.r_debt, hS2.s_debt, hS2.r_db, hS2.s_db, hS2.r_endBy, hS2.s_endBy, hS2.r_eb, hS2.s_eb, vpT, vpk0, clk0, vpk1, clk1, vpk2, clk2, vpk3, clk3, vpk4, clk4, vpk5, clk5, vpk6, clk6, vpk7, clk7, vpk8, clk8, vpk9, clk9, nI_clamp, nI_1, true_and, e]
  have hF3 : FrS QR2 M (m_si M2 206 34 (-1)) := ((hF1.mono (fun a j q => by unfold QR2 QR; omega)).tr (hF2.mono (fun a j q => QR.two a j (QY.r a j q)))).tr (FrS.si (by unfold QR2; omega) _)
  have g : ∀ a j, (a = 206 ∧ (j = 0 ∨ j = 33 ∨ j = 37)) → m_i (m_si M2 206 34 (-1)) a j = m_i M a j := fun a j q => by rw [m_i_si, if_neg (by omega), hF2.1 _ _ (by unfold QY QD; omega), hF1.1 _ _ (by omega)]
  refine h _ hF3 (hI.fr2 hw hF3 ?_ ?_ ?_) ?_
  · rw [g _ _ (by omega)]; exact a4
  · rw [m_i_si, if_pos ⟨rfl, rfl⟩]
  · rw [g _ _ (by omega)]; exact a7
  · exact g _ _ (by omega)
theorem ct_r_plan (M : Mm) (w : Wd) (hw : WOK w) (hI : RINV M w) (x y : Int32) (hd : 8 < d) (h : RPost M (aPlan w x y) Φ) : Ct l G d mRe_plan bc bs [.ref 206, .int x, .int y] M Φ := by
  refine Ct.of rfl (Nat.le_of_ble_eq_true rfl) ?_
  have n8 := hw.1
  obtain ⟨hF0, hI0, t0⟩ := hI.t0 hw
  have hS0 := hI0.1
  refine bRe_plan_0 _ _ _ _ ⟨hI.1.c, CallVC.cps0 (by omega) ?_⟩
  generalize m_si M 206 0 0 = M0 at *
  refine ct_isPerson M0 w hw hI0 x (by omega) (fun q1 => ?_) (fun q1 => ?_)
  rotate_left
  · refine bRe_plan_11 _ _ _ _ _ _ ?_
    refine ⟨fun z => ?_, fun z => ?_⟩ <;> first | exact absurd rfl z | exact absurd z (by decide) | skip
    refine ⟨hS0.c, CallVC.cps0 (by omega) (ct_bad1 M0 _ hS0 t0 (by decide) ?_)⟩
    refine bRe_plan_23 _ _ _ _ _ ?_
    refine ⟨fun z => ?_, fun z => ?_⟩ <;> first | exact absurd rfl z | exact absurd z (by decide) | skip
    exact h.fail hw hF0 hI0 (code := 1) rfl (okP_n q1)
  refine bRe_plan_11 _ _ _ _ _ _ ?_
  refine ⟨fun z => ?_, fun z => ?_⟩ <;> first | exact absurd rfl z | exact absurd z (by decide) | skip
  refine ⟨hS0.c, CallVC.cps0 (by omega) (ct_bad0 M0 _ hS0 t0 ?_)⟩
  refine bRe_plan_23 _ _ _ _ _ ?_
  refine ⟨fun z => ?_, fun z => ?_⟩ <;> first | exact absurd rfl z | exact absurd z (by decide) | skip
  refine CallVC.cps0 (by omega) ?_
  refine ct_inV M0 1023 y (fun q2 => ?_) (fun q2 => ?_)
  rotate_left
  · refine bRe_plan_35 _ _ _ _ _ _ ?_
    refine ⟨fun z => ?_, fun z => ?_⟩ <;> first | exact absurd rfl z | exact absurd z (by decide) | skip
    refine ⟨hS0.c, CallVC.cps0 (by omega) (ct_bad1 M0 _ hS0 t0 (by decide) ?_)⟩
    refine bRe_plan_47 _ _ _ _ _ ?_
    refine ⟨fun z => ?_, fun z => ?_⟩ <;> first | exact absurd rfl z | exact absurd z (by decide) | skip
    exact h.fail hw hF0 hI0 (code := 2) rfl ((okP_y q1).trans (okV_n q2))
  refine bRe_plan_35 _ _ _ _ _ _ ?_
  refine ⟨fun z => ?_, fun z => ?_⟩ <;> first | exact absurd rfl z | exact absurd z (by decide) | skip
  refine ⟨hS0.c, CallVC.cps0 (by omega) (ct_bad0 M0 _ hS0 t0 ?_)⟩
  refine bRe_plan_47 _ _ _ _ _ ?_
  refine ⟨fun z => ?_, fun z => ?_⟩ <;> first | exact absurd rfl z | exact absurd z (by decide) | skip
  obtain ⟨p, hp, rfl⟩ := (pIn_nI n8).mp q1
  refine ⟨hS0.c, CallVC.cps0 (by omega) ?_⟩
  refine ct_planEnds M0 w hw hI0 p hp y (by omega) (fun M1 hF1 hI1 t1 => ?_)
  refine bRe_plan_58 _ _ _ _ _ (h.done2 ((hF0.mono QR.two).tr hF1) hI1 (t1.trans t0) (((okP_y q1).trans (okV_y q2)).trans ?_))
  rw [tN_nI (by omega)]
theorem ct_r_again (M : Mm) (w : Wd) (hw : WOK w) (hI : RINV M w) (x y t : Int32) (hd : 7 < d) (h : RPost M (aAgain w x y t) Φ) : Ct l G d mRe_again bc bs [.ref 206, .int x, .int y, .int t] M Φ := by
  refine Ct.of rfl (Nat.le_of_ble_eq_true rfl) ?_
  have n8 := hw.1
  obtain ⟨hF0, hI0, t0⟩ := hI.t0 hw
  have hS0 := hI0.1
  refine bRe_again_0 _ _ _ _ _ ⟨hI.1.c, CallVC.cps0 (by omega) ?_⟩
  generalize m_si M 206 0 0 = M0 at *
  refine ct_isPerson M0 w hw hI0 y (by omega) (fun q1 => ?_) (fun q1 => ?_)
  rotate_left
  · refine bRe_again_11 _ _ _ _ _ _ _ ?_
    refine ⟨fun z => ?_, fun z => ?_⟩ <;> first | exact absurd rfl z | exact absurd z (by decide) | skip
    refine ⟨hS0.c, CallVC.cps0 (by omega) (ct_bad1 M0 _ hS0 t0 (by decide) ?_)⟩
    refine bRe_again_23 _ _ _ _ _ _ ?_
    refine ⟨fun z => ?_, fun z => ?_⟩ <;> first | exact absurd rfl z | exact absurd z (by decide) | skip
    exact h.fail hw hF0 hI0 (code := 1) rfl (okP_n q1)
  refine bRe_again_11 _ _ _ _ _ _ _ ?_
  refine ⟨fun z => ?_, fun z => ?_⟩ <;> first | exact absurd rfl z | exact absurd z (by decide) | skip
  refine ⟨hS0.c, CallVC.cps0 (by omega) (ct_bad0 M0 _ hS0 t0 ?_)⟩
  refine bRe_again_23 _ _ _ _ _ _ ?_
  refine ⟨fun z => ?_, fun z => ?_⟩ <;> first | exact absurd rfl z | exact absurd z (by decide) | skip
  by_cases q3 : x < 0
  · refine ⟨fun _ => ⟨hS0.c, CallVC.cps0 (by omega) (ct_bad1 M0 _ hS0 t0 (by decide) ?_)⟩, fun z => absurd q3 z⟩
    refine bRe_again_49 _ _ _ _ _ _ ?_
    refine ⟨fun z => ?_, fun z => ?_⟩ <;> first | exact absurd rfl z | exact absurd z (by decide) | skip
    refine h.fail hw hF0 hI0 (code := 2) rfl ((okP_y q1).trans ?_)
    rw [if_pos q3]
    unfold okV
    split <;> rfl
  refine ⟨fun z => absurd z q3, fun _ => CallVC.cps0 (by omega) ?_⟩
  refine ct_inV M0 4 t (fun q4 => ?_) (fun q4 => ?_)
  rotate_left
  · refine bRe_again_37 _ _ _ _ _ _ _ ?_
    refine ⟨fun z => ?_, fun z => ?_⟩ <;> first | exact absurd rfl z | exact absurd z (by decide) | skip
    refine ⟨hS0.c, CallVC.cps0 (by omega) (ct_bad1 M0 _ hS0 t0 (by decide) ?_)⟩
    refine bRe_again_49 _ _ _ _ _ _ ?_
    refine ⟨fun z => ?_, fun z => ?_⟩ <;> first | exact absurd rfl z | exact absurd z (by decide) | skip
    exact h.fail hw hF0 hI0 (code := 2) rfl ((okP_y q1).trans (okV_n q4))
  refine bRe_again_37 _ _ _ _ _ _ _ ?_
  refine ⟨fun z => ?_, fun z => ?_⟩ <;> first | exact absurd rfl z | exact absurd z (by decide) | skip
  refine ⟨hS0.c, CallVC.cps0 (by omega) (ct_bad0 M0 _ hS0 t0 ?_)⟩
  refine bRe_again_49 _ _ _ _ _ _ ?_
  refine ⟨fun z => ?_, fun z => ?_⟩ <;> first | exact absurd rfl z | exact absurd z (by decide) | skip
  obtain ⟨p, hp, rfl⟩ := (pIn_nI n8).mp q1
  obtain ⟨v, hv, rfl⟩ := (vIn_nI (by omega)).mp q4
  refine ⟨hS0.c, ?_⟩
  refine bRe_again_64 _ _ _ _ _ ⟨hS0.c, CallVC.cps0 (by omega) ?_⟩
  have hF1 : FrS (fun a j => a = 206 ∧ (j = 37 ∨ j = 38 ∨ j = 39)) M0 (m_si (m_si (m_si M0 206 37 (nI p)) 206 38 x) 206 39 (nI v)) := ((FrS.si ⟨rfl, by omega⟩ _).tr (FrS.si ⟨rfl, by omega⟩ _)).tr (FrS.si ⟨rfl, by omega⟩ _)
  have y37 : m_i (m_si (m_si (m_si M0 206 37 (nI p)) 206 38 x) 206 39 (nI v)) 206 37 = nI p := by rw [m_i_si, if_neg (by omega), m_i_si, if_neg (by omega), m_i_si, if_pos ⟨rfl, rfl⟩]
  have y38 : m_i (m_si (m_si (m_si M0 206 37 (nI p)) 206 38 x) 206 39 (nI v)) 206 38 = x := by rw [m_i_si, if_neg (by omega), m_i_si, if_pos ⟨rfl, rfl⟩]
  have y39 : m_i (m_si (m_si (m_si M0 206 37 (nI p)) 206 38 x) 206 39 (nI v)) 206 39 = nI v := by rw [m_i_si, if_pos ⟨rfl, rfl⟩]
  generalize m_si (m_si (m_si M0 206 37 (nI p)) 206 38 x) 206 39 (nI v) = M1 at *
  obtain ⟨a1, a2, a3, a4, a5, a6, a7, a8⟩ := hI0.rin
  have hR1 : RIN M1 w 0 none 0 (some p) x v := ⟨a1.fr hF1, a2.fr hF1 (by omega) (fun p j hp => by omega), a3.fr hF1 (by omega) (fun j => by omega) (fun j => by omega) (fun j => by omega) (fun i j hi => by omega), by rw [hF1.1 _ _ (by omega)]; exact a4, by rw [hF1.1 _ _ (by omega)]; exact a5, (fun p q => by cases q), y37, fun _ _ => ⟨y38, y39⟩⟩
  refine ct_asItIsW M1 w hw 0 (by omega) none 0 (some p) x v hR1 (fun p q => by cases q) (fun q e => by cases e; exact ⟨hp, q3, hv⟩) (by omega) (fun M2 hF2 hD2 hC2 => ?_)
  have hS2 := hC2.1
  refine bRe_again_73 _ _ _ _ _ ?_
  have e : m_i (m_si M2 206 37 (-1)) 269 p = g_eo (dyW w 0 none 0 (some p) x v (fun q => w_F w q 5)) p := by rw [m_i_si, if_neg (by omega)]; exact hD2.1.2.2.2.2.2.1 p (by omega)
  simp (disch := omega) only [hS2.c, hS2.r_fed, hS2.s_fed, hS2.r_rKind, hS2.s_rKind, hS2.r_kind, hS2.s_kind, hS2.r_rNum, hS2.s_rNum, hS2.r_num, hS2.s_num, hS2.r_rLong, hS2.s_rLong, hS2.r_cLong, hS2.s_cLong, hS2.r_stack, hS2.s_stack, hS2.r_names, hS2.s_names, hS2.r_row, hS2.s_row, hS2.r_ruleOf, hS2.s_ruleOf, hS2.r_ways, hS2.s_ways, hS2.r_cWho, hS2.s_cWho, hS2.r_cMin, hS2.s_cMin, hS2.r_cOff, hS2.s_cOff, hS2.r_cTh, hS2.s_cTh, hS2.r_cEnd, hS2.s_cEnd, hS2.r_hds, hS2.s_hds, hS2.r_ends, hS2.s_ends, hS2.r_there, hS2.s_there, hS2.r_offd, hS2.s_offd, hS2.r_had, hS2.s_had, hS2.r_rPer, hS2.s_rPer, hS2.r_rP, hS2.s_rP, hS2.r_per, hS2.s_per, hS2.r_pr, hS2.s_pr, hS2.r_rCode, hS2.s_rCode, hS2.r_rC, hS2.s_rC, hS2.r_code, hS2.s_code, hS2.r_cd, hS2.s_cd, hS2.r_kept, hS2.s_kept, hS2.r_kp, hS2.s_kp, hS2.r_holder, hS2.s_holder, hS2.r_hd, hS2.s_hd, hS2.r_pass, hS2.s_pass, hS2.r_ps, hS2.s_ps, hS2.r_debt, hS2.s_debt, hS2.r_db, hS2.s_db, hS2.r_endBy, hS2.s_endBy, hS2.r_eb, hS2.s_eb, vpT, vpk0, clk0, vpk1, clk1, vpk2, clk2, vpk3, clk3, vpk4, clk4, vpk5, clk5, vpk6, clk6, vpk7, clk7, vpk8, clk8, vpk9, clk9, nI_clamp, nI_1, true_and, e]
  have hF3 : FrS QR2 M0 (m_si M2 206 37 (-1)) := ((hF1.mono (fun a j q => by unfold QR2 QR; omega)).tr (hF2.mono (fun a j q => QR.two a j (QY.r a j q)))).tr (FrS.si (by unfold QR2; omega) _)
  have g : ∀ a j, (a = 206 ∧ (j = 0 ∨ j = 33 ∨ j = 34)) → m_i (m_si M2 206 37 (-1)) a j = m_i M0 a j := fun a j q => by rw [m_i_si, if_neg (by omega), hF2.1 _ _ (by unfold QY QD; omega), hF1.1 _ _ (by omega)]
  refine h.done2 ((hF0.mono QR.two).tr hF3) (hI0.fr2 hw hF3 ?_ ?_ ?_) ?_ (((okP_y q1).trans (okV_y q4)).trans ?_)
  · rw [g _ _ (by omega)]; exact a4
  · rw [g _ _ (by omega)]; exact a5
  · rw [m_i_si, if_pos ⟨rfl, rfl⟩]
  · rw [g _ _ (by omega)]; exact t0
  · rw [if_neg q3, tN_nI (by omega), tN_nI (by omega)]
theorem ct_endOf (M : Mm) (hS : RS M) (p : Nat) (hp : p < 8) (e : Int32) (he : m_i M 269 p = e) (h : Φ (.inl (some (.int (lateV e)))) M) : Ct l G d mRe_endOf bc bs [.ref 206, .int (nI p)] M Φ := by
  refine Ct.of rfl (Nat.le_of_ble_eq_true rfl) ?_
  refine bRe_endOf_0 _ _ _ ?_
  simp (disch := omega) only [hS.c, hS.r_fed, hS.s_fed, hS.r_rKind, hS.s_rKind, hS.r_kind, hS.s_kind, hS.r_rNum, hS.s_rNum, hS.r_num, hS.s_num, hS.r_rLong, hS.s_rLong, hS.r_cLong, hS.s_cLong, hS.r_stack, hS.s_stack, hS.r_names, hS.s_names, hS.r_row, hS.s_row, hS.r_ruleOf, hS.s_ruleOf, hS.r_ways, hS.s_ways, hS.r_cWho, hS.s_cWho, hS.r_cMin, hS.s_cMin, hS.r_cOff, hS.s_cOff, hS.r_cTh, hS.s_cTh, hS.r_cEnd, hS.s_cEnd, hS.r_hds, hS.s_hds, hS.r_ends, hS.s_ends, hS.r_there, hS.s_there, hS.r_offd, hS.s_offd, hS.r_had, hS.s_had, hS.r_rPer, hS.s_rPer, hS.r_rP, hS.s_rP, hS.r_per, hS.s_per, hS.r_pr, hS.s_pr, hS.r_rCode, hS.s_rCode, hS.r_rC, hS.s_rC, hS.r_code, hS.s_code, hS.r_cd, hS.s_cd, hS.r_kept, hS.s_kept, hS.r_kp, hS.s_kp, hS.r_holder, hS.s_holder, hS.r_hd, hS.s_hd, hS.r_pass, hS.s_pass, hS.r_ps, hS.s_ps, hS.r_debt, hS.s_debt, hS.r_db, hS.s_db, hS.r_endBy, hS.s_endBy, hS.r_eb, hS.s_eb, vpT, vpk0, clk0, vpk1, clk1, vpk2, clk2, vpk3, clk3, vpk4, clk4, vpk5, clk5, vpk6, clk6, vpk7, clk7, vpk8, clk8, vpk9, clk9, nI_clamp, nI_1, true_and, he]
  refine ⟨fun z => ?_, fun z => ?_⟩
  · unfold lateV at h; rw [if_neg z] at h; exact h
  · unfold lateV at h; rw [if_pos z] at h; exact h
theorem ct_r_gain (M : Mm) (w : Wd) (hw : WOK w) (hI : RINV M w) (x y : Int32) (hd : 7 < d) (h : RPost M (aGain w x y) Φ) : Ct l G d mRe_gain bc bs [.ref 206, .int x, .int y] M Φ := by
  refine Ct.of rfl (Nat.le_of_ble_eq_true rfl) ?_
  have n8 := hw.1
  obtain ⟨hF0, hI0, t0⟩ := hI.t0 hw
  have hS0 := hI0.1
  refine bRe_gain_0 _ _ _ _ ⟨hI.1.c, CallVC.cps0 (by omega) ?_⟩
  generalize m_si M 206 0 0 = M0 at *
  refine ct_isPerson M0 w hw hI0 x (by omega) (fun q1 => ?_) (fun q1 => ?_)
  rotate_left
  · refine bRe_gain_11 _ _ _ _ _ _ _ ?_
    refine ⟨fun z => ?_, fun z => ?_⟩ <;> first | exact absurd rfl z | exact absurd z (by decide) | skip
    refine ⟨hS0.c, CallVC.cps0 (by omega) (ct_bad1 M0 _ hS0 t0 (by decide) ?_)⟩
    refine bRe_gain_23 _ _ _ _ _ _ ?_
    refine ⟨fun z => ?_, fun z => ?_⟩ <;> first | exact absurd rfl z | exact absurd z (by decide) | skip
    exact h.fail hw hF0 hI0 (code := 1) rfl (okP_n q1)
  refine bRe_gain_11 _ _ _ _ _ _ _ ?_
  refine ⟨fun z => ?_, fun z => ?_⟩ <;> first | exact absurd rfl z | exact absurd z (by decide) | skip
  refine ⟨hS0.c, CallVC.cps0 (by omega) (ct_bad0 M0 _ hS0 t0 ?_)⟩
  refine bRe_gain_23 _ _ _ _ _ _ ?_
  refine ⟨fun z => ?_, fun z => ?_⟩ <;> first | exact absurd rfl z | exact absurd z (by decide) | skip
  refine CallVC.cps0 (by omega) ?_
  refine ct_inV M0 4 y (fun q2 => ?_) (fun q2 => ?_)
  rotate_left
  · refine bRe_gain_33 _ _ _ _ _ _ _ ?_
    refine ⟨fun z => ?_, fun z => ?_⟩ <;> first | exact absurd rfl z | exact absurd z (by decide) | skip
    refine ⟨hS0.c, CallVC.cps0 (by omega) (ct_bad1 M0 _ hS0 t0 (by decide) ?_)⟩
    refine bRe_gain_45 _ _ _ _ _ _ ?_
    refine ⟨fun z => ?_, fun z => ?_⟩ <;> first | exact absurd rfl z | exact absurd z (by decide) | skip
    exact h.fail hw hF0 hI0 (code := 2) rfl ((okP_y q1).trans (okV_n q2))
  refine bRe_gain_33 _ _ _ _ _ _ _ ?_
  refine ⟨fun z => ?_, fun z => ?_⟩ <;> first | exact absurd rfl z | exact absurd z (by decide) | skip
  refine ⟨hS0.c, CallVC.cps0 (by omega) (ct_bad0 M0 _ hS0 t0 ?_)⟩
  refine bRe_gain_45 _ _ _ _ _ _ ?_
  refine ⟨fun z => ?_, fun z => ?_⟩ <;> first | exact absurd rfl z | exact absurd z (by decide) | skip
  obtain ⟨p, hp, rfl⟩ := (pIn_nI n8).mp q1
  obtain ⟨v, hv, rfl⟩ := (vIn_nI (by omega)).mp q2
  refine ⟨hS0.c, CallVC.cps0 (by omega) ?_⟩
  refine ct_asItIsW M0 w hw 0 (by omega) none 0 none 0 0 hI0.rin (fun p q => by cases q) (fun p q => by cases q) (by omega) (fun M1 hF1 hD1 hC1 => ?_)
  obtain ⟨hok, hrk⟩ := day0W_ok hw
  have hF1' := hF0.tr (hF1.mono QY.r)
  have hI1 := hI0.fr hw (hF1.mono QY.r)
  have t1 : m_i M1 206 0 = 0 := by rw [hF1.1 _ _ (by unfold QY QD; omega)]; exact t0
  have hS1 := hI1.1
  replace hD1 : RDs M1 (day0W w) := hD1
  refine bRe_gain_54 _ _ _ _ _ ⟨hS1.c, CallVC.cps0 (by omega) ?_⟩
  refine ct_endOf M1 hS1 p (by omega) _ (hD1.1.2.2.2.2.2.1 p (by omega)) ?_
  refine bRe_gain_59 _ _ _ _ _ _ ⟨hS1.c, CallVC.cps0 (by omega) ?_⟩
  refine ct_layWays M1 hS1 (fun M2 hF2 hy2 => ?_)
  have hS2 := hS1.fr hF2
  refine bRe_gain_64 _ _ _ _ _ ?_
  simp (disch := omega) only [hS2.c, hS2.r_fed, hS2.s_fed, hS2.r_rKind, hS2.s_rKind, hS2.r_kind, hS2.s_kind, hS2.r_rNum, hS2.s_rNum, hS2.r_num, hS2.s_num, hS2.r_rLong, hS2.s_rLong, hS2.r_cLong, hS2.s_cLong, hS2.r_stack, hS2.s_stack, hS2.r_names, hS2.s_names, hS2.r_row, hS2.s_row, hS2.r_ruleOf, hS2.s_ruleOf, hS2.r_ways, hS2.s_ways, hS2.r_cWho, hS2.s_cWho, hS2.r_cMin, hS2.s_cMin, hS2.r_cOff, hS2.s_cOff, hS2.r_cTh, hS2.s_cTh, hS2.r_cEnd, hS2.s_cEnd, hS2.r_hds, hS2.s_hds, hS2.r_ends, hS2.s_ends, hS2.r_there, hS2.s_there, hS2.r_offd, hS2.s_offd, hS2.r_had, hS2.s_had, hS2.r_rPer, hS2.s_rPer, hS2.r_rP, hS2.s_rP, hS2.r_per, hS2.s_per, hS2.r_pr, hS2.s_pr, hS2.r_rCode, hS2.s_rCode, hS2.r_rC, hS2.s_rC, hS2.r_code, hS2.s_code, hS2.r_cd, hS2.s_cd, hS2.r_kept, hS2.s_kept, hS2.r_kp, hS2.s_kp, hS2.r_holder, hS2.s_holder, hS2.r_hd, hS2.s_hd, hS2.r_pass, hS2.s_pass, hS2.r_ps, hS2.s_ps, hS2.r_debt, hS2.s_debt, hS2.r_db, hS2.s_db, hS2.r_endBy, hS2.s_endBy, hS2.r_eb, hS2.s_eb, vpT, vpk0, clk0, vpk1, clk1, vpk2, clk2, vpk3, clk3, vpk4, clk4, vpk5, clk5, vpk6, clk6, vpk7, clk7, vpk8, clk8, vpk9, clk9, nI_clamp, nI_1, true_and]
  refine CallVC.cps0 (by omega) ?_
  have hF3 : FrS (fun a _ => a = 262) M1 (m_si M2 262 p (nI v)) := hF2.tr (FrS.si (P := fun a _ => a = 262) rfl _)
  have hI3 := hI1.fr hw (hF3.mono (fun a j q => QY.r a j (Or.inr (Or.inr q))))
  refine ct_day0W _ w hw 0 (by omega) none 0 none 0 0 (fun q => if q = p then v else w_F w q 5) hI3.rin (fun p q => by cases q) (fun p q => by cases q) (fun q hq => ?_) (fun q hq => ?_) (by omega) (fun M4 hF4 hD4 hC4 => ?_)
  · show (if q = p then v else w_F w q 5) ≤ 4
    split
    · exact hv
    · exact (hw.2.1 q hq).2.2.2.2.2.1
  · show _ = nI (if q = p then v else w_F w q 5)
    rw [m_i_si]
    by_cases z : q = p
    · rw [if_pos ⟨rfl, z⟩, if_pos z]
    · rw [if_neg (fun y => z y.2), if_neg z, hy2 q (by omega)]
      exact hI1.2.1.2.2 q 5 hq (by omega)
  · have hS4 := hC4.1
    refine bRe_gain_75 _ _ _ _ _ ⟨hS4.c, CallVC.cps0 (by omega) ?_⟩
    refine ct_endOf M4 hS4 p (by omega) _ (hD4.1.2.2.2.2.2.1 p (by omega)) ?_
    have hF4r : FrS QR M1 M4 := (hF3.mono (fun a j q => QY.r a j (Or.inr (Or.inr q)))).tr (hF4.mono (fun a j q => QY.r a j (q.elim Or.inl (fun z => Or.inr (Or.inl z)))))
    refine bRe_gain_81 _ _ _ _ _ _ _ (h.done hw (hF1'.tr hF4r) (hI1.fr hw hF4r) ?_ (((okP_y q1).trans (okV_y q2)).trans ?_))
    · rw [hF4.1 _ _ (by unfold QD; omega), hF3.1 _ _ (by omega)]; exact t1
    · rw [tN_nI (by omega), tN_nI (by omega), dyW_turn]
end SRV
