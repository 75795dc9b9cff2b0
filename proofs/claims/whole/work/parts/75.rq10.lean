/-! ===== the reference: rest, polite ===== -/
section SS1
variable {l : Launch} {G : Gx} {d : Nat} {bc bs : Nat} {Φ : OutV → Mm → Prop}
theorem ct_isRest (M : Mm) (w : Wd) (hw : WOK w) (hn : w_n w ≤ 5) (hS : RS M) (h11 : m_i M 206 11 = nI (w_n w)) (hE : EBr M w (5 ^ w_n w)) (r : Nat) (hr : r < 5 ^ w_n w) (hd : 0 < d) (h : Φ (.inl (some (.int (if isR w r = true then 1 else 0)))) M) : Ct l G d mRe_isRest bc bs [.ref 206, .int (nI r)] M Φ := by
  obtain ⟨p5, p5'⟩ := p5_le hn
  refine Ct.of rfl (Nat.le_of_ble_eq_true rfl) ?_
  refine bRe_isRest_0 _ _ _ ?_
  have lp : ∀ e p (u3 u4 u5 : Value), p + e = w_n w → (∀ q, q < p → ∀ v, v < 5 → ¬ eB w (rsN (w_n w) r q v) q < eB w r q) → Ev l G d mRe_isRest 2 [.ref 206, .int (nI r), .int (nI p), u3, u4, u5] [] M bc bs Φ := by
    intro e
    induction e with
    | zero =>
      intro p u3 u4 u5 hp hq
      have : isR w r = true := (isR_iff w r).mpr (fun q hq2 => hq q (by omega))
      rw [if_pos this] at h
      exact bRe_isRest_2 _ _ _ _ _ _ _ ⟨hS.c, fun _ => h, fun z => absurd (by rw [h11]; exact nI_le (by omega) (by omega)) z⟩
    | succ e ih =>
      intro p u3 u4 u5 hp hq
      refine bRe_isRest_2 _ _ _ _ _ _ _ ⟨hS.c, fun z => absurd z (by rw [h11]; exact nI_not_le (by omega) (by omega)), fun _ => CallVC.cps0 (by omega) ?_⟩
      obtain ⟨m, hm⟩ : ∃ m, w_n w = m + 1 := ⟨w_n w - 1, by omega⟩
      have e11 : m_i M 206 11 - 1 - nI p = nI (m - p) := by rw [h11, hm, nI_pred, pk_sub (show p ≤ m by omega)]
      rw [e11]
      refine ct_power M (m - p) (by omega) ?_
      obtain ⟨c1, c2⟩ := p5_le (n := m - p) (by omega)
      have hB : 5 ^ (m - p) = 5 ^ (w_n w - 1 - p) := by rw [hm, show m + 1 - 1 - p = m - p by omega]
      refine bRe_isRest_21 _ _ _ _ _ _ _ _ ⟨fun z => by have := (nI_eq (b := 0) (by omega) (by omega)).mp z; omega, ?_⟩
      rw [pk_div (by omega) (by omega) (by omega), show (5 : Int32) = nI 5 from rfl, pk_rem (Nat.lt_of_le_of_lt (Nat.div_le_self _ _) (by omega)) (by omega) (by omega), hB]
      have hdg : r / 5 ^ (w_n w - 1 - p) % 5 = dg (w_n w) r p := rfl
      rw [hdg]
      have lv : ∀ e2 v, v + e2 = 5 → (∀ v', v' < v → ¬ eB w (rsN (w_n w) r p v') p < eB w r p) → Ev l G d mRe_isRest 32 [.ref 206, .int (nI r), .int (nI p), .int (nI (5 ^ (w_n w - 1 - p))), .int (nI (dg (w_n w) r p)), .int (nI v)] [] M bc bs Φ := by
        intro e2
        induction e2 with
        | zero =>
          intro v hv hv2
          refine bRe_isRest_32 _ _ _ _ _ _ _ ⟨fun _ => ?_, fun z => absurd (nI_le (a := 5) (by omega) (by omega)) z⟩
          rw [nI_1]
          refine ih (p + 1) _ _ _ (by omega) (fun q hq2 v' hv' => ?_)
          by_cases z : q = p
          · rw [z]; exact hv2 v' (by omega)
          · exact hq q (by omega) v' hv'
        | succ e2 ih2 =>
          intro v hv hv2
          obtain ⟨k1, k2⟩ := rsN_lt (v := v) (show p < w_n w by omega) hr (by omega)
          refine bRe_isRest_32 _ _ _ _ _ _ _ ⟨fun z => absurd z (nI_not_le (b := 5) (by omega) (by omega)), fun _ => ?_⟩
          have ei : nI r + ((nI v - nI (dg (w_n w) r p)) * nI (5 ^ (w_n w - 1 - p))) = nI (rsN (w_n w) r p v) := rs_int k2
          rw [ei]
          have x1 := hE _ k1 p (by omega)
          have x2 := hE r hr p (by omega)
          have l1 := eB_le hw (rsN (w_n w) r p v) p
          have l2 := eB_le hw r p
          simp (disch := omega) only [hS.c, hS.r_fed, hS.s_fed, hS.r_rKind, hS.s_rKind, hS.r_kind, hS.s_kind, hS.r_rNum, hS.s_rNum, hS.r_num, hS.s_num, hS.r_rLong, hS.s_rLong, hS.r_cLong, hS.s_cLong, hS.r_stack, hS.s_stack, hS.r_names, hS.s_names, hS.r_row, hS.s_row, hS.r_ruleOf, hS.s_ruleOf, hS.r_ways, hS.s_ways, hS.r_cWho, hS.s_cWho, hS.r_cMin, hS.s_cMin, hS.r_cOff, hS.s_cOff, hS.r_cTh, hS.s_cTh, hS.r_cEnd, hS.s_cEnd, hS.r_hds, hS.s_hds, hS.r_ends, hS.s_ends, hS.r_there, hS.s_there, hS.r_offd, hS.s_offd, hS.r_had, hS.s_had, hS.r_rPer, hS.s_rPer, hS.r_rP, hS.s_rP, hS.r_per, hS.s_per, hS.r_pr, hS.s_pr, hS.r_rCode, hS.s_rCode, hS.r_rC, hS.s_rC, hS.r_code, hS.s_code, hS.r_cd, hS.s_cd, hS.r_kept, hS.s_kept, hS.r_kp, hS.s_kp, hS.r_holder, hS.s_holder, hS.r_hd, hS.s_hd, hS.r_pass, hS.s_pass, hS.r_ps, hS.s_ps, hS.r_debt, hS.s_debt, hS.r_db, hS.s_db, hS.r_endBy, hS.s_endBy, hS.r_eb, hS.s_eb, vpT, vpk0, clk0, vpk1, clk1, vpk2, clk2, vpk3, clk3, vpk4, clk4, vpk5, clk5, vpk6, clk6, vpk7, clk7, vpk8, clk8, vpk9, clk9, nI_clamp, nI_1, true_and, x1, x2]
          refine ⟨fun z => ?_, fun z => ?_⟩
          · refine ih2 (v + 1) (by omega) (fun v' hv' => ?_)
            by_cases y : v' = v
            · rw [y]; have := (nI_leI (by omega) (by omega)).mp z; omega
            · exact hv2 v' (by omega)
          · have : ¬ isR w r = true := fun y => by
              have := (isR_iff w r).mp y p (by omega) v (by omega)
              exact z ((nI_leI (by omega) (by omega)).mpr (by omega))
            rw [if_neg this] at h
            exact h
      exact lv 5 0 (by omega) (fun v' hv' => absurd hv' (Nat.not_lt_zero v'))
  exact lp (w_n w) 0 _ _ _ (by omega) (fun q hq => absurd hq (Nat.not_lt_zero q))
theorem dcN_le (w : Wd) : ∀ e k, dcN w e k ≤ e
  | 0, _ => Nat.le_refl _
  | e + 1, k => by
    have := dcN_le w e (k + 1)
    show dcN w e (k + 1) + _ ≤ _
    split <;> omega
theorem ct_r_rest (M : Mm) (w : Wd) (hw : WOK w) (hI : RINV M w) (x : Int32) (hd : 7 < d) (h : RPost M (aRest w x) Φ) : Ct l G d mRe_rest bc bs [.ref 206, .int x] M Φ := by
  refine Ct.of rfl (Nat.le_of_ble_eq_true rfl) ?_
  have n8 := hw.1
  obtain ⟨hF0, hI0, t0⟩ := hI.t0 hw
  have hS0 := hI0.1
  refine bRe_rest_0 _ _ _ ⟨hI.1.c, CallVC.cps0 (by omega) ?_⟩
  generalize m_si M 206 0 0 = M0 at *
  refine ct_inV M0 1 x (fun q1 => ?_) (fun q1 => ?_)
  rotate_left
  · refine bRe_rest_12 _ _ _ _ _ _ _ _ ?_
    refine ⟨fun z => ?_, fun z => ?_⟩ <;> first | exact absurd rfl z | exact absurd z (by decide) | skip
    refine ⟨hS0.c, CallVC.cps0 (by omega) (ct_bad1 M0 _ hS0 t0 (by decide) ?_)⟩
    refine bRe_rest_24 _ _ _ _ _ _ _ ?_
    refine ⟨fun z => ?_, fun z => ?_⟩ <;> first | exact absurd rfl z | exact absurd z (by decide) | skip
    exact h.fail hw hF0 hI0 (code := 1) rfl (okV_n q1)
  refine bRe_rest_12 _ _ _ _ _ _ _ _ ?_
  refine ⟨fun z => ?_, fun z => ?_⟩ <;> first | exact absurd rfl z | exact absurd z (by decide) | skip
  refine ⟨hS0.c, CallVC.cps0 (by omega) (ct_bad0 M0 _ hS0 t0 ?_)⟩
  refine bRe_rest_24 _ _ _ _ _ _ _ ?_
  refine ⟨fun z => ?_, fun z => ?_⟩ <;> first | exact absurd rfl z | exact absurd z (by decide) | skip
  obtain ⟨v, hv, rfl⟩ := (vIn_nI (by omega)).mp q1
  refine ⟨hS0.c, ?_⟩
  have e5 : m_i M0 206 11 ≤ 5 ↔ w_n w ≤ 5 := by rw [hI0.2.1.1]; exact nI_leI (b := 5) (by omega) (by omega)
  rw [e5]
  refine ⟨fun hn => CallVC.cps0 (by omega) (ct_bad0 M0 _ hS0 t0 ?_), fun hn => CallVC.cps0 (by omega) (ct_bad1 M0 _ hS0 t0 (by decide) ?_)⟩
  rotate_left
  · refine bRe_rest_45 _ _ _ _ _ _ _ ?_
    refine ⟨fun z => ?_, fun z => ?_⟩ <;> first | exact absurd rfl z | exact absurd z (by decide) | skip
    refine h.fail hw hF0 hI0 (code := 2) rfl ((okV_y q1).trans ?_)
    rw [if_pos (by omega)]
  obtain ⟨p5, p5'⟩ := p5_le hn
  refine bRe_rest_45 _ _ _ _ _ _ _ ?_
  refine ⟨fun z => ?_, fun z => ?_⟩ <;> first | exact absurd rfl z | exact absurd z (by decide) | skip
  refine ⟨hS0.c, CallVC.cps0 (by omega) ?_⟩
  refine ct_layAll M0 w hw hI0 hn (by omega) (fun M1 hF1 hE1 => ?_)
  have hI1 := hI0.fr hw (hF1.mono QE.r)
  have hS1 := hI1.1
  have t1 : m_i M1 206 0 = 0 := by rw [hF1.1 _ _ (by unfold QE QY QD; omega)]; exact t0
  refine bRe_rest_54 _ _ _ _ _ _ ⟨hS1.c, CallVC.cps0 (by omega) ?_⟩
  refine ct_allRows M1 hS1 (w_n w) n8 hI1.2.1.1 ?_
  refine bRe_rest_62 _ _ _ _ _ _ _ ?_
  have hfin : ∀ r, r = (if v = 0 then nI (dcN w (5 ^ w_n w) 0) else oN (fiN w (5 ^ w_n w) 0)) → Φ (.inl (some (.int r))) M1 := fun r e => by
    refine h.done hw (hF0.tr (hF1.mono QE.r)) hI1 t1 ((okV_y q1).trans ?_)
    rw [if_neg (by omega), tN_nI (by omega), e]
  have dS : ∀ e k, dcN w (e + 1) k = dcN w e (k + 1) + (if isR w k = true then 1 else 0) := fun _ _ => rfl
  have fS : ∀ e k, fiN w (e + 1) k = if isR w k = true then some k else fiN w e (k + 1) := fun _ _ => rfl
  have hend : ∀ (x4 : Int32), x4 < 0 → Ev l G d mRe_rest 66 [.ref 206, .int (nI v), .int (nI (dcN w (5 ^ w_n w) 0)), .int (oN (fiN w (5 ^ w_n w) 0)), .int x4] [] M1 bc bs Φ := fun x4 hx => by
    have v0 : nI v = 0 ↔ v = 0 := nI_eq (b := 0) (by omega) (by omega)
    refine bRe_rest_66 _ _ _ _ _ _ ⟨fun _ => ⟨fun z => hfin _ ?_, fun z => hfin _ ?_⟩, fun z => absurd hx z⟩
    · rw [if_neg (fun q => z (v0.mpr q))]
    · rw [if_pos (v0.mp z)]
  have loop : ∀ r e, r + 1 + e = 5 ^ w_n w → Ev l G d mRe_rest 66 [.ref 206, .int (nI v), .int (nI (dcN w e (r + 1))), .int (oN (fiN w e (r + 1))), .int (nI r)] [] M1 bc bs Φ := by
    intro r
    induction r with
    | zero =>
      intro e he
      refine bRe_rest_66 _ _ _ _ _ _ ⟨fun z => absurd z (by decide), fun _ => ⟨hS1.c, CallVC.cps0 (by omega) ?_⟩⟩
      refine ct_isRest M1 w hw hn hS1 hI1.2.1.1 hE1 0 (by omega) (by omega) ?_
      have e1 : e + 1 = 5 ^ w_n w := by omega
      rw [← e1, dS, fS] at hend
      refine bRe_rest_77 _ _ _ _ _ _ _ ⟨fun z => ?_, fun z => ?_⟩
      · have hi : isR w 0 = true := by
          cases q : isR w 0 with
          | true => rfl
          | false => rw [q] at z; exact absurd rfl z
        rw [if_pos hi, if_pos hi] at hend
        refine bRe_rest_89 _ _ _ _ _ _ ?_
        rw [nI_1]
        exact hend _ (by decide)
      · have hi : ¬ isR w 0 = true := fun q => by rw [q] at z; exact absurd z (by decide)
        rw [if_neg hi, if_neg hi, Nat.add_zero] at hend
        refine bRe_rest_89 _ _ _ _ _ _ ?_
        exact hend _ (by decide)
    | succ r ih =>
      intro e he
      refine bRe_rest_66 _ _ _ _ _ _ ⟨fun z => absurd z (nI_pos (by omega)), fun _ => ⟨hS1.c, CallVC.cps0 (by omega) ?_⟩⟩
      refine ct_isRest M1 w hw hn hS1 hI1.2.1.1 hE1 (r + 1) (by omega) (by omega) ?_
      have hn' := ih (e + 1) (by omega)
      rw [dS, fS] at hn'
      refine bRe_rest_77 _ _ _ _ _ _ _ ⟨fun z => ?_, fun z => ?_⟩
      · have hi : isR w (r + 1) = true := by
          cases q : isR w (r + 1) with
          | true => rfl
          | false => rw [q] at z; exact absurd rfl z
        rw [if_pos hi, if_pos hi] at hn'
        refine bRe_rest_89 _ _ _ _ _ _ ?_
        rw [nI_1, pk_m1]
        exact hn'
      · have hi : ¬ isR w (r + 1) = true := fun q => by rw [q] at z; exact absurd z (by decide)
        rw [if_neg hi, if_neg hi, Nat.add_zero] at hn'
        refine bRe_rest_89 _ _ _ _ _ _ ?_
        rw [pk_m1]
        exact hn'
  obtain ⟨m, hm⟩ : ∃ m, 5 ^ w_n w = m + 1 := ⟨5 ^ w_n w - 1, by omega⟩
  have := loop m 0 (by omega)
  rw [hm, nI_pred]
  exact this
theorem sB_le {w : Wd} (hw : WOK w) (r : Nat) : ∀ p, sB w r p ≤ 9999 * p
  | 0 => Nat.le_refl _
  | p + 1 => by
    have := sB_le hw r p
    have := eB_le hw r p
    show sB w r p + eB w r p ≤ _
    omega
theorem ct_r_polite (M : Mm) (w : Wd) (hw : WOK w) (hI : RINV M w) (x : Int32) (hd : 7 < d) (h : RPost M (aPolite w x) Φ) : Ct l G d mRe_polite bc bs [.ref 206, .int x] M Φ := by
  refine Ct.of rfl (Nat.le_of_ble_eq_true rfl) ?_
  have n8 := hw.1
  obtain ⟨hF0, hI0, t0⟩ := hI.t0 hw
  have hS0 := hI0.1
  refine bRe_polite_0 _ _ _ ⟨hI.1.c, CallVC.cps0 (by omega) ?_⟩
  generalize m_si M 206 0 0 = M0 at *
  refine ct_inV M0 1 x (fun q1 => ?_) (fun q1 => ?_)
  rotate_left
  · refine bRe_polite_12 _ _ _ _ _ _ _ _ _ _ ?_
    refine ⟨fun z => ?_, fun z => ?_⟩ <;> first | exact absurd rfl z | exact absurd z (by decide) | skip
    refine ⟨hS0.c, CallVC.cps0 (by omega) (ct_bad1 M0 _ hS0 t0 (by decide) ?_)⟩
    refine bRe_polite_24 _ _ _ _ _ _ _ _ _ ?_
    refine ⟨fun z => ?_, fun z => ?_⟩ <;> first | exact absurd rfl z | exact absurd z (by decide) | skip
    exact h.fail hw hF0 hI0 (code := 1) rfl (okV_n q1)
  refine bRe_polite_12 _ _ _ _ _ _ _ _ _ _ ?_
  refine ⟨fun z => ?_, fun z => ?_⟩ <;> first | exact absurd rfl z | exact absurd z (by decide) | skip
  refine ⟨hS0.c, CallVC.cps0 (by omega) (ct_bad0 M0 _ hS0 t0 ?_)⟩
  refine bRe_polite_24 _ _ _ _ _ _ _ _ _ ?_
  refine ⟨fun z => ?_, fun z => ?_⟩ <;> first | exact absurd rfl z | exact absurd z (by decide) | skip
  obtain ⟨v, hv, rfl⟩ := (vIn_nI (by omega)).mp q1
  refine ⟨hS0.c, ?_⟩
  have e5 : m_i M0 206 11 ≤ 5 ↔ w_n w ≤ 5 := by rw [hI0.2.1.1]; exact nI_leI (b := 5) (by omega) (by omega)
  rw [e5]
  refine ⟨fun hn => CallVC.cps0 (by omega) (ct_bad0 M0 _ hS0 t0 ?_), fun hn => CallVC.cps0 (by omega) (ct_bad1 M0 _ hS0 t0 (by decide) ?_)⟩
  rotate_left
  · refine bRe_polite_45 _ _ _ _ _ _ _ _ _ ?_
    refine ⟨fun z => ?_, fun z => ?_⟩ <;> first | exact absurd rfl z | exact absurd z (by decide) | skip
    refine h.fail hw hF0 hI0 (code := 2) rfl ((okV_y q1).trans ?_)
    rw [if_pos (by omega)]
  obtain ⟨p5, p5'⟩ := p5_le hn
  refine bRe_polite_45 _ _ _ _ _ _ _ _ _ ?_
  refine ⟨fun z => ?_, fun z => ?_⟩ <;> first | exact absurd rfl z | exact absurd z (by decide) | skip
  refine ⟨hS0.c, CallVC.cps0 (by omega) ?_⟩
  refine ct_layAll M0 w hw hI0 hn (by omega) (fun M1 hF1 hE1 => ?_)
  have hI1 := hI0.fr hw (hF1.mono QE.r)
  have hS1 := hI1.1
  have h11 := hI1.2.1.1
  have t1 : m_i M1 206 0 = 0 := by rw [hF1.1 _ _ (by unfold QE QY QD; omega)]; exact t0
  refine bRe_polite_54 _ _ _ _ _ _ _ _ ?_
  have hsb : ∀ r, sbN w r < 2 ^ 20 := fun r => by have := sB_le hw r (w_n w); unfold sbN; omega
  have loop : ∀ e r (x2 x3 : Int32) (u5 u6 : Value), r + e = 5 ^ w_n w → (r = 0 → x2 = -1) → (∀ k, r = k + 1 → x2 = nI (bstN (sbN w) k) ∧ x3 = nI (sbN w (bstN (sbN w) k))) → Ev l G d mRe_polite 61 [.ref 206, .int (nI v), .int x2, .int x3, .int (nI r), u5, u6] [] M1 bc bs Φ := by
    intro e
    induction e with
    | zero =>
      intro r x2 x3 u5 u6 hr h0 h1
      obtain rfl : r = 5 ^ w_n w := by omega
      refine bRe_polite_61 _ _ _ _ _ _ _ _ ⟨hS1.c, CallVC.cps0 (by omega) ?_⟩
      refine ct_allRows M1 hS1 (w_n w) n8 h11 ?_
      obtain ⟨m, hm⟩ : ∃ m, 5 ^ w_n w = m + 1 := ⟨5 ^ w_n w - 1, by omega⟩
      obtain ⟨e2, e3⟩ := h1 m hm
      have v0 : nI v = 0 ↔ v = 0 := nI_eq (b := 0) (by omega) (by omega)
      refine bRe_polite_67 _ _ _ _ _ _ _ _ _ _ ⟨fun _ => ⟨fun z => ?_, fun z => ?_⟩, fun z => absurd (nI_le (Nat.le_refl _) (by omega)) z⟩
      · refine h.done hw (hF0.tr (hF1.mono QE.r)) hI1 t1 ((okV_y q1).trans ?_)
        rw [if_neg (by omega), tN_nI (by omega), if_neg (fun q => z (v0.mpr q)), e3, hm, Nat.add_sub_cancel]
      · refine h.done hw (hF0.tr (hF1.mono QE.r)) hI1 t1 ((okV_y q1).trans ?_)
        rw [if_neg (by omega), tN_nI (by omega), if_pos (v0.mp z), e2, hm, Nat.add_sub_cancel]
    | succ e ih =>
      intro r x2 x3 u5 u6 hr h0 h1
      refine bRe_polite_61 _ _ _ _ _ _ _ _ ⟨hS1.c, CallVC.cps0 (by omega) ?_⟩
      refine ct_allRows M1 hS1 (w_n w) n8 h11 ?_
      refine bRe_polite_67 _ _ _ _ _ _ _ _ _ _ ⟨fun z => absurd z (nI_not_le (by omega) (by omega)), fun _ => ?_⟩
      have lp : ∀ e2 p, p + e2 = w_n w → Ev l G d mRe_polite 76 [.ref 206, .int (nI v), .int x2, .int x3, .int (nI r), .int (nI (sB w r p)), .int (nI p)] [] M1 bc bs Φ := by
        intro e2
        induction e2 with
        | zero =>
          intro p hp
          obtain rfl : p = w_n w := by omega
          have hs : sB w r (w_n w) = sbN w r := rfl
          rw [hs]
          have keep : (∃ k, r = k + 1 ∧ bstN (sbN w) r = bstN (sbN w) k) → Ev l G d mRe_polite 126 [.ref 206, .int (nI v), .int x2, .int x3, .int (nI r), .int (nI (sbN w r)), .int (nI (w_n w))] [] M1 bc bs Φ := fun ⟨k, k1, k2⟩ => by
            refine bRe_polite_126 _ _ _ _ _ _ _ _ ?_
            rw [nI_1]
            refine ih (r + 1) _ _ _ _ (by omega) (fun q => by omega) (fun k' ek => ?_)
            obtain rfl : k' = r := by omega
            rw [k2]
            exact h1 k k1
          have take : bstN (sbN w) r = r → Ev l G d mRe_polite 120 [.ref 206, .int (nI v), .int x2, .int x3, .int (nI r), .int (nI (sbN w r)), .int (nI (w_n w))] [] M1 bc bs Φ := fun hk => by
            refine bRe_polite_120 _ _ _ _ _ _ _ _ ?_
            refine bRe_polite_126 _ _ _ _ _ _ _ _ ?_
            rw [nI_1]
            refine ih (r + 1) _ _ _ _ (by omega) (fun q => by omega) (fun k' ek => ?_)
            obtain rfl : k' = r := by omega
            rw [hk]
            exact ⟨rfl, rfl⟩
          refine bRe_polite_76 _ _ _ _ _ _ _ _ ⟨hS1.c, fun _ => ?_, fun z => absurd (by rw [h11]; exact nI_le (Nat.le_refl _) (by omega)) z⟩
          cases r with
          | zero =>
            have e2 := h0 rfl
            exact ⟨fun _ => take rfl, fun z => absurd e2 z⟩
          | succ k =>
            obtain ⟨e2, e3⟩ := h1 k rfl
            have hb := (bstN_sp (sbN w) k).1
            have s1 := hsb (k + 1)
            have s2 := hsb (bstN (sbN w) k)
            have hst : bstN (sbN w) (k + 1) = if sbN w (k + 1) < sbN w (bstN (sbN w) k) then k + 1 else bstN (sbN w) k := rfl
            refine ⟨fun z => ?_, fun _ => ⟨fun z => take ?_, fun z => keep ⟨k, rfl, ?_⟩⟩⟩
            · rw [e2] at z; exact absurd z (nI_neg (by omega))
            · rw [e3] at z
              rw [hst, if_pos ((nI_ltI (by omega) (by omega)).mp z)]
            · rw [e3] at z
              rw [hst, if_neg (fun y => z ((nI_ltI (by omega) (by omega)).mpr y))]
        | succ e2 ih2 =>
          intro p hp
          have x1 := hE1 r (by omega) p (by omega)
          refine bRe_polite_76 _ _ _ _ _ _ _ _ ⟨hS1.c, fun z => absurd z (by rw [h11]; exact nI_not_le (by omega) (by omega)), fun _ => ?_⟩
          simp (disch := omega) only [hS1.c, hS1.r_fed, hS1.s_fed, hS1.r_rKind, hS1.s_rKind, hS1.r_kind, hS1.s_kind, hS1.r_rNum, hS1.s_rNum, hS1.r_num, hS1.s_num, hS1.r_rLong, hS1.s_rLong, hS1.r_cLong, hS1.s_cLong, hS1.r_stack, hS1.s_stack, hS1.r_names, hS1.s_names, hS1.r_row, hS1.s_row, hS1.r_ruleOf, hS1.s_ruleOf, hS1.r_ways, hS1.s_ways, hS1.r_cWho, hS1.s_cWho, hS1.r_cMin, hS1.s_cMin, hS1.r_cOff, hS1.s_cOff, hS1.r_cTh, hS1.s_cTh, hS1.r_cEnd, hS1.s_cEnd, hS1.r_hds, hS1.s_hds, hS1.r_ends, hS1.s_ends, hS1.r_there, hS1.s_there, hS1.r_offd, hS1.s_offd, hS1.r_had, hS1.s_had, hS1.r_rPer, hS1.s_rPer, hS1.r_rP, hS1.s_rP, hS1.r_per, hS1.s_per, hS1.r_pr, hS1.s_pr, hS1.r_rCode, hS1.s_rCode, hS1.r_rC, hS1.s_rC, hS1.r_code, hS1.s_code, hS1.r_cd, hS1.s_cd, hS1.r_kept, hS1.s_kept, hS1.r_kp, hS1.s_kp, hS1.r_holder, hS1.s_holder, hS1.r_hd, hS1.s_hd, hS1.r_pass, hS1.s_pass, hS1.r_ps, hS1.s_ps, hS1.r_debt, hS1.s_debt, hS1.r_db, hS1.s_db, hS1.r_endBy, hS1.s_endBy, hS1.r_eb, hS1.s_eb, vpT, vpk0, clk0, vpk1, clk1, vpk2, clk2, vpk3, clk3, vpk4, clk4, vpk5, clk5, vpk6, clk6, vpk7, clk7, vpk8, clk8, vpk9, clk9, nI_clamp, nI_1, true_and, x1]
          rw [nI_add]
          exact ih2 (p + 1) (by omega)
      exact lp (w_n w) 0 (by omega)
  exact loop (5 ^ w_n w) 0 _ _ _ _ (by omega) (fun _ => rfl) (fun k hk => by omega)
end SS1
