/-! ===== the reference: what is owed; images ===== -/
def aImage (w : Wd) : An := if w_ic w = 3 then (0, -1, w) else (0, nI (w_ic w + 1), ws_im w (w_ic w + 1) (fun i => if i = w_ic w then (fun p => w_F w p 5, fun p => w_F w p 6, w_sr w, w_ss w) else w_im w i))
def backF (w : Wd) (m : Imz) : Nat → Nat → Nat := fun p k => if p < w_n w ∧ k = 5 then m.1 p else if p < w_n w ∧ k = 6 then m.2.1 p else w_F w p k
def aRestore (w : Wd) : An := if w_ic w = 0 then (0, -1, w) else (0, nI (w_ic w - 1), ws_im (ws_sr (ws_F w (backF w (w_im w (w_ic w - 1)))) (w_im w (w_ic w - 1)).2.2.1 (w_im w (w_ic w - 1)).2.2.2) (w_ic w - 1) (w_im w))
theorem vp17 {i : Nat} (k : Nat) (hk : k ≤ 17) (hi : i < 8) : vp_in (nI k + nI i) 32 := by rw [nI_add]; exact vp_in_nI (by omega) (by omega)
theorem cl17 {i : Nat} (k : Nat) (hk : k ≤ 17) (hi : i < 8) : (nI k + nI i).toNatClampNeg = k + i := by rw [nI_add]; exact nI_clamp (by omega)
section SRX
variable {l : Launch} {G : Gx} {d : Nat} {bc bs : Nat} {Φ : OutV → Mm → Prop}
theorem ct_r_owed (M : Mm) (w : Wd) (hw : WOK w) (hI : RINV M w) (x y : Int32) (hd : 7 < d) (h : RPost M (aOwed w x y) Φ) : Ct l G d mRe_owed bc bs [.ref 206, .int x, .int y] M Φ := by
  refine Ct.of rfl (Nat.le_of_ble_eq_true rfl) ?_
  have n8 := hw.1
  obtain ⟨hF0, hI0, t0⟩ := hI.t0 hw
  have hS0 := hI0.1
  refine bRe_owed_0 _ _ _ _ ⟨hI.1.c, CallVC.cps0 (by omega) ?_⟩
  generalize m_si M 206 0 0 = M0 at *
  refine ct_isPerson M0 w hw hI0 x (by omega) (fun q1 => ?_) (fun q1 => ?_)
  rotate_left
  · refine bRe_owed_11 _ _ _ _ _ _ _ _ _ ?_
    refine ⟨fun z => ?_, fun z => ?_⟩ <;> first | exact absurd rfl z | exact absurd z (by decide) | skip
    refine ⟨hS0.c, CallVC.cps0 (by omega) (ct_bad1 M0 _ hS0 t0 (by decide) ?_)⟩
    refine bRe_owed_31 _ _ _ _ _ _ _ _ ?_
    refine ⟨fun z => ?_, fun z => ?_⟩ <;> first | exact absurd rfl z | exact absurd z (by decide) | skip
    exact h.fail hw hF0 hI0 (code := 1) rfl (okP_n q1)
  refine bRe_owed_11 _ _ _ _ _ _ _ _ _ ?_
  refine ⟨fun z => ?_, fun z => ?_⟩ <;> first | exact absurd rfl z | exact absurd z (by decide) | skip
  refine ⟨hS0.c, CallVC.cps0 (by omega) ?_⟩
  refine ct_isPerson M0 w hw hI0 y (by omega) (fun q2 => ?_) (fun q2 => ?_)
  rotate_left
  · refine bRe_owed_19 _ _ _ _ _ _ _ _ _ ?_
    refine ⟨fun z => ?_, fun z => ?_⟩ <;> first | exact absurd rfl z | exact absurd z (by decide) | skip
    refine ⟨hS0.c, CallVC.cps0 (by omega) (ct_bad1 M0 _ hS0 t0 (by decide) ?_)⟩
    refine bRe_owed_31 _ _ _ _ _ _ _ _ ?_
    refine ⟨fun z => ?_, fun z => ?_⟩ <;> first | exact absurd rfl z | exact absurd z (by decide) | skip
    exact h.fail hw hF0 hI0 (code := 1) rfl ((okP_y q1).trans (okP_n q2))
  refine bRe_owed_19 _ _ _ _ _ _ _ _ _ ?_
  refine ⟨fun z => ?_, fun z => ?_⟩ <;> first | exact absurd rfl z | exact absurd z (by decide) | skip
  refine ⟨hS0.c, CallVC.cps0 (by omega) (ct_bad0 M0 _ hS0 t0 ?_)⟩
  refine bRe_owed_31 _ _ _ _ _ _ _ _ ?_
  refine ⟨fun z => ?_, fun z => ?_⟩ <;> first | exact absurd rfl z | exact absurd z (by decide) | skip
  refine ⟨hS0.c, CallVC.cps0 (by omega) ?_⟩
  refine ct_asItIsW M0 w hw 0 (by omega) none 0 none 0 0 hI0.rin (fun p q => by cases q) (fun p q => by cases q) (by omega) (fun M1 hF1 hD1 hC1 => ?_)
  obtain ⟨hok, hrk⟩ := day0W_ok hw
  have hF1' := hF0.tr (hF1.mono QY.r)
  have hI1 := hI0.fr hw (hF1.mono QY.r)
  have t1 : m_i M1 206 0 = 0 := by rw [hF1.1 _ _ (by unfold QY QD; omega)]; exact t0
  have hS1 := hI1.1
  replace hD1 : RDs M1 (day0W w) := hD1
  obtain ⟨p, hp, rfl⟩ := (pIn_nI n8).mp q1
  obtain ⟨o, ho, rfl⟩ := (pIn_nI n8).mp q2
  have hix := PBL.idx (cW_ok hw (fun p q => by cases q) (fun p q => by cases q) (fun p hp => (hw.2.1 p hp).2.2.2.2.2.1)).1 hok
  have hps := hD1.1.2.2.2.2.1
  have hacy := hrk.acy
  have ha : aOwed w (nI p) (nI o) = (0, givL (g_ps (day0W w)) p o, w) := by
    refine ((okP_y q1).trans (okP_y q2)).trans ?_
    rw [tN_nI (by omega), tN_nI (by omega)]
  rw [ha] at h
  generalize g_ps (day0W w) = ps at *
  generalize (fun q => (g_gs (day0W w)).idxOf q) = rk at *
  have hgv : ∀ a b, givL ps a b = nI (givL ps a b).toNatClampNeg ∧ (givL ps a b).toNatClampNeg < 2 ^ 31 ∧ ((givL ps a b).toNatClampNeg ≠ 0 → rk b < rk a) := fun a b => by
    obtain ⟨m, m1, m2, m3⟩ := giv_nat hacy a b ps.length (Nat.le_refl _)
    have hl := hps.2.1
    have e : givL ps a b = nI m := m2
    rw [e, nI_clamp (by omega)]
    exact ⟨rfl, by omega, m3⟩
  have hsub : ∀ a b, (givL ps a b - givL ps b a ≤ 0 → (0 : Int32) = givL ps a b) ∧ (¬ givL ps a b - givL ps b a ≤ 0 → givL ps a b - givL ps b a = givL ps a b) := fun a b => by
    obtain ⟨a1, a2, a3⟩ := hgv a b
    obtain ⟨b1, b2, b3⟩ := hgv b a
    rw [a1, b1]
    generalize (givL ps a b).toNatClampNeg = m at *
    generalize (givL ps b a).toNatClampNeg = m' at *
    by_cases z : m' = 0
    · subst z
      rw [show nI m - nI 0 = nI m from Int32.sub_zero _]
      refine ⟨fun q => ?_, fun _ => rfl⟩
      have : m = 0 := by
        have := (nI_leI (b := 0) (by omega) (by omega)).mp q
        omega
      rw [this]; rfl
    · have hm : m = 0 := Classical.byContradiction (fun q => by have := a3 q; have := b3 z; omega)
      subst hm
      exact ⟨fun _ => rfl, fun q => absurd (Int32.le_of_lt (nI_sub_neg (by omega) b2)) q⟩
  refine bRe_owed_40 _ _ _ _ _ _ _ ?_
  have hfin : ∀ M' (u4 u5 : Value), FrS (fun a _ => 349 ≤ a ∧ a < 349 + 8) M1 M' → DBR M' (w_n w) (fun a b => (givL ps a b).toNatClampNeg) → Ev l G d mRe_owed 113 [.ref 206, .int (nI p), .int (nI o), .int 1, u4, u5] [] M' bc bs Φ := fun M' u4 u5 hF hD => by
    have hFr : FrS QR M1 M' := hF.mono (fun a j q => by unfold QR; omega)
    have hI' := hI1.fr hw hFr
    have hS' := hI'.1
    refine bRe_owed_113 _ _ _ _ _ _ _ ⟨fun z => absurd z (by decide), fun _ => ⟨hS'.c, CallVC.cps0 (by omega) ?_⟩⟩
    refine ct_setsOff M' hS' (w_n w) n8 hI'.2.1.1 _ rk hD (fun a b => ⟨(hgv a b).2.1, (hgv a b).2.2⟩) ?_
    refine bRe_owed_121 _ _ _ _ _ _ _ _ ?_
    refine bRe_owed_113 _ _ _ _ _ _ _ ⟨fun _ => ?_, fun z => absurd rfl z⟩
    have e := hD p o hp ho
    simp (disch := omega) only [hS'.c, hS'.r_fed, hS'.s_fed, hS'.r_rKind, hS'.s_rKind, hS'.r_kind, hS'.s_kind, hS'.r_rNum, hS'.s_rNum, hS'.r_num, hS'.s_num, hS'.r_rLong, hS'.s_rLong, hS'.r_cLong, hS'.s_cLong, hS'.r_stack, hS'.s_stack, hS'.r_names, hS'.s_names, hS'.r_row, hS'.s_row, hS'.r_ruleOf, hS'.s_ruleOf, hS'.r_ways, hS'.s_ways, hS'.r_cWho, hS'.s_cWho, hS'.r_cMin, hS'.s_cMin, hS'.r_cOff, hS'.s_cOff, hS'.r_cTh, hS'.s_cTh, hS'.r_cEnd, hS'.s_cEnd, hS'.r_hds, hS'.s_hds, hS'.r_ends, hS'.s_ends, hS'.r_there, hS'.s_there, hS'.r_offd, hS'.s_offd, hS'.r_had, hS'.s_had, hS'.r_rPer, hS'.s_rPer, hS'.r_rP, hS'.s_rP, hS'.r_per, hS'.s_per, hS'.r_pr, hS'.s_pr, hS'.r_rCode, hS'.s_rCode, hS'.r_rC, hS'.s_rC, hS'.r_code, hS'.s_code, hS'.r_cd, hS'.s_cd, hS'.r_kept, hS'.s_kept, hS'.r_kp, hS'.s_kp, hS'.r_holder, hS'.s_holder, hS'.r_hd, hS'.s_hd, hS'.r_pass, hS'.s_pass, hS'.r_ps, hS'.s_ps, hS'.r_debt, hS'.s_debt, hS'.r_db, hS'.s_db, hS'.r_endBy, hS'.s_endBy, hS'.r_eb, hS'.s_eb, vpT, vpk0, clk0, vpk1, clk1, vpk2, clk2, vpk3, clk3, vpk4, clk4, vpk5, clk5, vpk6, clk6, vpk7, clk7, vpk8, clk8, vpk9, clk9, nI_clamp, nI_1, true_and, e]
    refine h.done hw (hF1'.tr hFr) hI' (by rw [hF.1 _ _ (by omega)]; exact t1) ?_
    rw [← (hgv p o).1]
  have la : ∀ e a M' (u4 u5 : Value), a + e = w_n w → FrS (fun a _ => 349 ≤ a ∧ a < 349 + 8) M1 M' → (∀ a' b, a' < a → b < w_n w → m_i M' (349 + a') b = givL ps a' b) → Ev l G d mRe_owed 42 [.ref 206, .int (nI p), .int (nI o), .int (nI a), u4, u5] [] M' bc bs Φ := by
    intro e
    induction e with
    | zero =>
      intro a M' u4 u5 hae hF hd'
      have e11 : m_i M' 206 11 = nI (w_n w) := by rw [hF.1 _ _ (by omega)]; exact hI1.2.1.1
      refine bRe_owed_42 _ _ _ _ _ _ _ ⟨(hS1.fr hF).c, fun _ => hfin M' _ _ hF (fun a b h1 h2 => ?_), fun z => absurd ?_ z⟩
      · rw [hd' a b (by omega) h2]; exact (hgv a b).1
      · rw [e11]; exact nI_le (by omega) (by omega)
    | succ e iha =>
      intro a M' u4 u5 hae hF hd'
      have e11 : m_i M' 206 11 = nI (w_n w) := by rw [hF.1 _ _ (by omega)]; exact hI1.2.1.1
      refine bRe_owed_42 _ _ _ _ _ _ _ ⟨(hS1.fr hF).c, fun z => absurd z (by rw [e11]; exact nI_not_le (by omega) (by omega)), fun _ => ?_⟩
      have lb : ∀ e2 b M2 (u5 : Value), b + e2 = w_n w → FrS (fun a _ => 349 ≤ a ∧ a < 349 + 8) M1 M2 → (∀ a' b, a' < a → b < w_n w → m_i M2 (349 + a') b = givL ps a' b) → (∀ b', b' < b → m_i M2 (349 + a) b' = givL ps a b') → Ev l G d mRe_owed 53 [.ref 206, .int (nI p), .int (nI o), .int (nI a), .int (nI b), u5] [] M2 bc bs Φ := by
        intro e2
        induction e2 with
        | zero =>
          intro b M2 u5 hbe hF2 hd2 hb2
          have e11 : m_i M2 206 11 = nI (w_n w) := by rw [hF2.1 _ _ (by omega)]; exact hI1.2.1.1
          refine bRe_owed_53 _ _ _ _ _ _ _ ⟨(hS1.fr hF2).c, fun _ => ?_, fun z => absurd ?_ z⟩
          · rw [nI_1]
            refine iha (a + 1) M2 _ _ (by omega) hF2 (fun a' b' h1 h2 => ?_)
            by_cases z : a' = a
            · rw [z]; exact hb2 b' (by omega)
            · exact hd2 a' b' (by omega) h2
          · rw [e11]; exact nI_le (by omega) (by omega)
        | succ e2 ihb =>
          intro b M2 u5 hbe hF2 hd2 hb2
          have e11 : m_i M2 206 11 = nI (w_n w) := by rw [hF2.1 _ _ (by omega)]; exact hI1.2.1.1
          have hS2 := hS1.fr hF2
          have hps2 : RPs M2 ps := hps.fr hF2 (by omega) (fun p j hp => by omega)
          refine bRe_owed_53 _ _ _ _ _ _ _ ⟨hS2.c, fun z => absurd z (by rw [e11]; exact nI_not_le (by omega) (by omega)), fun _ => CallVC.cps0 (by omega) ?_⟩
          refine ct_bookOf M2 hS2 ps hps2 (fun i hi => ⟨(hix i hi).1, (hix i hi).2.1⟩) a b (by omega) (by omega) ?_
          refine bRe_owed_69 _ _ _ _ _ _ _ _ ⟨hS2.c, CallVC.cps0 (by omega) ?_⟩
          refine ct_bookOf M2 hS2 ps hps2 (fun i hi => ⟨(hix i hi).1, (hix i hi).2.1⟩) b a (by omega) (by omega) ?_
          have hnext : ∀ (v x5 : Int32), v = givL ps a b → Ev l G d mRe_owed 53 [.ref 206, .int (nI p), .int (nI o), .int (nI a), .int (nI (b + 1)), .int x5] [] (m_si M2 (349 + a) b v) bc bs Φ := fun v x5 ev => by
            refine ihb (b + 1) _ _ (by omega) (hF2.tr (FrS.si (by omega) _)) (fun a' b' h1 h2 => ?_) (fun b' h1 => ?_)
            · rw [m_i_si, if_neg (by omega)]; exact hd2 a' b' h1 h2
            · rw [m_i_si]
              by_cases z : b' = b
              · rw [if_pos ⟨rfl, z⟩, z]; exact ev
              · rw [if_neg (fun q => z q.2)]; exact hb2 b' (by omega)
          refine bRe_owed_76 _ _ _ _ _ _ _ _ _ ?_
          simp (disch := omega) only [hS2.c, hS2.r_fed, hS2.s_fed, hS2.r_rKind, hS2.s_rKind, hS2.r_kind, hS2.s_kind, hS2.r_rNum, hS2.s_rNum, hS2.r_num, hS2.s_num, hS2.r_rLong, hS2.s_rLong, hS2.r_cLong, hS2.s_cLong, hS2.r_stack, hS2.s_stack, hS2.r_names, hS2.s_names, hS2.r_row, hS2.s_row, hS2.r_ruleOf, hS2.s_ruleOf, hS2.r_ways, hS2.s_ways, hS2.r_cWho, hS2.s_cWho, hS2.r_cMin, hS2.s_cMin, hS2.r_cOff, hS2.s_cOff, hS2.r_cTh, hS2.s_cTh, hS2.r_cEnd, hS2.s_cEnd, hS2.r_hds, hS2.s_hds, hS2.r_ends, hS2.s_ends, hS2.r_there, hS2.s_there, hS2.r_offd, hS2.s_offd, hS2.r_had, hS2.s_had, hS2.r_rPer, hS2.s_rPer, hS2.r_rP, hS2.s_rP, hS2.r_per, hS2.s_per, hS2.r_pr, hS2.s_pr, hS2.r_rCode, hS2.s_rCode, hS2.r_rC, hS2.s_rC, hS2.r_code, hS2.s_code, hS2.r_cd, hS2.s_cd, hS2.r_kept, hS2.s_kept, hS2.r_kp, hS2.s_kp, hS2.r_holder, hS2.s_holder, hS2.r_hd, hS2.s_hd, hS2.r_pass, hS2.s_pass, hS2.r_ps, hS2.s_ps, hS2.r_debt, hS2.s_debt, hS2.r_db, hS2.s_db, hS2.r_endBy, hS2.s_endBy, hS2.r_eb, hS2.s_eb, vpT, vpk0, clk0, vpk1, clk1, vpk2, clk2, vpk3, clk3, vpk4, clk4, vpk5, clk5, vpk6, clk6, vpk7, clk7, vpk8, clk8, vpk9, clk9, nI_clamp, nI_1, true_and]
          exact ⟨fun z => hnext _ _ ((hsub a b).1 z), fun z => hnext _ _ ((hsub a b).2 z)⟩
      exact lb (w_n w) 0 M' _ (by omega) hF hd' (fun b' h => absurd h (Nat.not_lt_zero b'))
  exact la (w_n w) 0 M1 _ _ (by omega) (FrS.rf _ _) (fun a' b h => absurd h (Nat.not_lt_zero a'))
theorem ct_movesF (M : Mm) (hS : RS M) (i : Nat) (hi : i < 3) (h : ∀ M', FrS (fun a _ => a = 258 + i) M M' → m_i M' (258 + i) 0 = m_i M 206 27 → (∀ j, j < 8 → m_i M' (258 + i) (1 + j) = m_i M 256 j ∧ m_i M' (258 + i) (9 + j) = m_i M (218 + j) 5 ∧ m_i M' (258 + i) (17 + j) = m_i M (218 + j) 6) → Φ (.inl none) M') : Ct l G d mRe_moves bc bs [.ref 206, .ref (258 + i), .int 0] M Φ := by
  refine Ct.of rfl (Nat.le_of_ble_eq_true rfl) ?_
  refine bRe_moves_0 _ _ _ _ ⟨fun z => absurd rfl z, fun _ => ?_⟩
  simp (disch := omega) only [hS.c, hS.r_fed, hS.s_fed, hS.r_rKind, hS.s_rKind, hS.r_kind, hS.s_kind, hS.r_rNum, hS.s_rNum, hS.r_num, hS.s_num, hS.r_rLong, hS.s_rLong, hS.r_cLong, hS.s_cLong, hS.r_stack, hS.s_stack, hS.r_names, hS.s_names, hS.r_row, hS.s_row, hS.r_ruleOf, hS.s_ruleOf, hS.r_ways, hS.s_ways, hS.r_cWho, hS.s_cWho, hS.r_cMin, hS.s_cMin, hS.r_cOff, hS.s_cOff, hS.r_cTh, hS.s_cTh, hS.r_cEnd, hS.s_cEnd, hS.r_hds, hS.s_hds, hS.r_ends, hS.s_ends, hS.r_there, hS.s_there, hS.r_offd, hS.s_offd, hS.r_had, hS.s_had, hS.r_rPer, hS.s_rPer, hS.r_rP, hS.s_rP, hS.r_per, hS.s_per, hS.r_pr, hS.s_pr, hS.r_rCode, hS.s_rCode, hS.r_rC, hS.s_rC, hS.r_code, hS.s_code, hS.r_cd, hS.s_cd, hS.r_kept, hS.s_kept, hS.r_kp, hS.s_kp, hS.r_holder, hS.s_holder, hS.r_hd, hS.s_hd, hS.r_pass, hS.s_pass, hS.r_ps, hS.s_ps, hS.r_debt, hS.s_debt, hS.r_db, hS.s_db, hS.r_endBy, hS.s_endBy, hS.r_eb, hS.s_eb, vpT, vpk0, clk0, vpk1, clk1, vpk2, clk2, vpk3, clk3, vpk4, clk4, vpk5, clk5, vpk6, clk6, vpk7, clk7, vpk8, clk8, vpk9, clk9, nI_clamp, nI_1, true_and]
  have hF0 : FrS (fun a _ => a = 258 + i) M (m_si M (258 + i) 0 (m_i M 206 27)) := FrS.si (P := fun a _ => a = 258 + i) rfl _
  have e0 : m_i (m_si M (258 + i) 0 (m_i M 206 27)) (258 + i) 0 = m_i M 206 27 := by rw [m_i_si, if_pos ⟨rfl, rfl⟩]
  generalize m_si M (258 + i) 0 (m_i M 206 27) = M0 at *
  have hS0 := hS.fr hF0
  refine bRe_moves_11 _ _ _ _ _ ?_
  simp (disch := omega) only [hS0.c, hS0.r_fed, hS0.s_fed, hS0.r_rKind, hS0.s_rKind, hS0.r_kind, hS0.s_kind, hS0.r_rNum, hS0.s_rNum, hS0.r_num, hS0.s_num, hS0.r_rLong, hS0.s_rLong, hS0.r_cLong, hS0.s_cLong, hS0.r_stack, hS0.s_stack, hS0.r_names, hS0.s_names, hS0.r_row, hS0.s_row, hS0.r_ruleOf, hS0.s_ruleOf, hS0.r_ways, hS0.s_ways, hS0.r_cWho, hS0.s_cWho, hS0.r_cMin, hS0.s_cMin, hS0.r_cOff, hS0.s_cOff, hS0.r_cTh, hS0.s_cTh, hS0.r_cEnd, hS0.s_cEnd, hS0.r_hds, hS0.s_hds, hS0.r_ends, hS0.s_ends, hS0.r_there, hS0.s_there, hS0.r_offd, hS0.s_offd, hS0.r_had, hS0.s_had, hS0.r_rPer, hS0.s_rPer, hS0.r_rP, hS0.s_rP, hS0.r_per, hS0.s_per, hS0.r_pr, hS0.s_pr, hS0.r_rCode, hS0.s_rCode, hS0.r_rC, hS0.s_rC, hS0.r_code, hS0.s_code, hS0.r_cd, hS0.s_cd, hS0.r_kept, hS0.s_kept, hS0.r_kp, hS0.s_kp, hS0.r_holder, hS0.s_holder, hS0.r_hd, hS0.s_hd, hS0.r_pass, hS0.s_pass, hS0.r_ps, hS0.s_ps, hS0.r_debt, hS0.s_debt, hS0.r_db, hS0.s_db, hS0.r_endBy, hS0.s_endBy, hS0.r_eb, hS0.s_eb, vpT, vpk0, clk0, vpk1, clk1, vpk2, clk2, vpk3, clk3, vpk4, clk4, vpk5, clk5, vpk6, clk6, vpk7, clk7, vpk8, clk8, vpk9, clk9, nI_clamp, nI_1, true_and, e0]
  rw [m_si_self M0 206 27 (hF0.1 _ _ (by omega)).symm]
  have loop : ∀ e p M', p + e = 8 → FrS (fun a _ => a = 258 + i) M M' → m_i M' (258 + i) 0 = m_i M 206 27 → (∀ j, j < p → m_i M' (258 + i) (1 + j) = m_i M 256 j ∧ m_i M' (258 + i) (9 + j) = m_i M (218 + j) 5 ∧ m_i M' (258 + i) (17 + j) = m_i M (218 + j) 6) → (∀ j, p ≤ j → True) → Ev l G d mRe_moves 20 [.ref 206, .ref (258 + i), .int 0, .int (nI p)] [] M' bc bs Φ := by
    intro e
    induction e with
    | zero =>
      intro p M' hp hF h0 hj _
      exact bRe_moves_20 _ _ _ _ _ ⟨fun _ => h M' hF h0 (fun j hj8 => hj j (by omega)), fun z => absurd (nI_le (a := 8) (by omega) (by omega)) z⟩
    | succ e ih =>
      intro p M' hp hF h0 hj _
      have hS' := hS.fr hF
      have v1 := vp17 (i := p) 1 (by omega) (by omega)
      have v9 := vp17 (i := p) 9 (by omega) (by omega)
      have v17 := vp17 (i := p) 17 (by omega) (by omega)
      have c1 := cl17 (i := p) 1 (by omega) (by omega)
      have c9 := cl17 (i := p) 9 (by omega) (by omega)
      have c17 := cl17 (i := p) 17 (by omega) (by omega)
      refine bRe_moves_20 _ _ _ _ _ ⟨fun z => absurd z (nI_not_le (b := 8) (by omega) (by omega)), fun _ => ⟨fun z => absurd rfl z, fun _ => ?_⟩⟩
      rw [show (1 : Int32) + nI p = nI 1 + nI p from rfl, show (9 : Int32) + nI p = nI 9 + nI p from rfl, c1, c9]
      simp (disch := omega) only [hS'.c, hS'.r_fed, hS'.s_fed, hS'.r_rKind, hS'.s_rKind, hS'.r_kind, hS'.s_kind, hS'.r_rNum, hS'.s_rNum, hS'.r_num, hS'.s_num, hS'.r_rLong, hS'.s_rLong, hS'.r_cLong, hS'.s_cLong, hS'.r_stack, hS'.s_stack, hS'.r_names, hS'.s_names, hS'.r_row, hS'.s_row, hS'.r_ruleOf, hS'.s_ruleOf, hS'.r_ways, hS'.s_ways, hS'.r_cWho, hS'.s_cWho, hS'.r_cMin, hS'.s_cMin, hS'.r_cOff, hS'.s_cOff, hS'.r_cTh, hS'.s_cTh, hS'.r_cEnd, hS'.s_cEnd, hS'.r_hds, hS'.s_hds, hS'.r_ends, hS'.s_ends, hS'.r_there, hS'.s_there, hS'.r_offd, hS'.s_offd, hS'.r_had, hS'.s_had, hS'.r_rPer, hS'.s_rPer, hS'.r_rP, hS'.s_rP, hS'.r_per, hS'.s_per, hS'.r_pr, hS'.s_pr, hS'.r_rCode, hS'.s_rCode, hS'.r_rC, hS'.s_rC, hS'.r_code, hS'.s_code, hS'.r_cd, hS'.s_cd, hS'.r_kept, hS'.s_kept, hS'.r_kp, hS'.s_kp, hS'.r_holder, hS'.s_holder, hS'.r_hd, hS'.s_hd, hS'.r_pass, hS'.s_pass, hS'.r_ps, hS'.s_ps, hS'.r_debt, hS'.s_debt, hS'.r_db, hS'.s_db, hS'.r_endBy, hS'.s_endBy, hS'.r_eb, hS'.s_eb, vpT, vpk0, clk0, vpk1, clk1, vpk2, clk2, vpk3, clk3, vpk4, clk4, vpk5, clk5, vpk6, clk6, vpk7, clk7, vpk8, clk8, vpk9, clk9, nI_clamp, nI_1, true_and, v1, v9]
      rw [m_i_si, if_neg (by omega)]
      refine bRe_moves_55 _ _ _ _ _ ?_
      rw [show (17 : Int32) + nI p = nI 17 + nI p from rfl, c17]
      simp only [m_sh_si, m_r_si]
      simp (disch := omega) only [hS'.c, hS'.r_fed, hS'.s_fed, hS'.r_rKind, hS'.s_rKind, hS'.r_kind, hS'.s_kind, hS'.r_rNum, hS'.s_rNum, hS'.r_num, hS'.s_num, hS'.r_rLong, hS'.s_rLong, hS'.r_cLong, hS'.s_cLong, hS'.r_stack, hS'.s_stack, hS'.r_names, hS'.s_names, hS'.r_row, hS'.s_row, hS'.r_ruleOf, hS'.s_ruleOf, hS'.r_ways, hS'.s_ways, hS'.r_cWho, hS'.s_cWho, hS'.r_cMin, hS'.s_cMin, hS'.r_cOff, hS'.s_cOff, hS'.r_cTh, hS'.s_cTh, hS'.r_cEnd, hS'.s_cEnd, hS'.r_hds, hS'.s_hds, hS'.r_ends, hS'.s_ends, hS'.r_there, hS'.s_there, hS'.r_offd, hS'.s_offd, hS'.r_had, hS'.s_had, hS'.r_rPer, hS'.s_rPer, hS'.r_rP, hS'.s_rP, hS'.r_per, hS'.s_per, hS'.r_pr, hS'.s_pr, hS'.r_rCode, hS'.s_rCode, hS'.r_rC, hS'.s_rC, hS'.r_code, hS'.s_code, hS'.r_cd, hS'.s_cd, hS'.r_kept, hS'.s_kept, hS'.r_kp, hS'.s_kp, hS'.r_holder, hS'.s_holder, hS'.r_hd, hS'.s_hd, hS'.r_pass, hS'.s_pass, hS'.r_ps, hS'.s_ps, hS'.r_debt, hS'.s_debt, hS'.r_db, hS'.s_db, hS'.r_endBy, hS'.s_endBy, hS'.r_eb, hS'.s_eb, vpT, vpk0, clk0, vpk1, clk1, vpk2, clk2, vpk3, clk3, vpk4, clk4, vpk5, clk5, vpk6, clk6, vpk7, clk7, vpk8, clk8, vpk9, clk9, nI_clamp, nI_1, true_and, v17]
      rw [m_i_si, if_neg (by omega), m_i_si, if_neg (by omega)]
      have hF2 : FrS (fun a _ => a = 258 + i) M' (m_si (m_si (m_si M' (258 + i) (1 + p) (m_i M' 256 p)) (258 + i) (9 + p) (m_i M' (218 + p) 5)) (258 + i) (17 + p) (m_i M' (218 + p) 6)) := ((FrS.si (P := fun a _ => a = 258 + i) rfl _).tr (FrS.si (P := fun a _ => a = 258 + i) rfl _)).tr (FrS.si (P := fun a _ => a = 258 + i) rfl _)
      have y0 : ∀ k, k ≠ 1 + p → k ≠ 9 + p → k ≠ 17 + p → m_i (m_si (m_si (m_si M' (258 + i) (1 + p) (m_i M' 256 p)) (258 + i) (9 + p) (m_i M' (218 + p) 5)) (258 + i) (17 + p) (m_i M' (218 + p) 6)) (258 + i) k = m_i M' (258 + i) k := fun k n1 n2 n3 => by rw [m_i_si, if_neg (by omega), m_i_si, if_neg (by omega), m_i_si, if_neg (by omega)]
      have y1 : m_i (m_si (m_si (m_si M' (258 + i) (1 + p) (m_i M' 256 p)) (258 + i) (9 + p) (m_i M' (218 + p) 5)) (258 + i) (17 + p) (m_i M' (218 + p) 6)) (258 + i) (1 + p) = m_i M' 256 p := by rw [m_i_si, if_neg (by omega), m_i_si, if_neg (by omega), m_i_si, if_pos ⟨rfl, rfl⟩]
      have y9 : m_i (m_si (m_si (m_si M' (258 + i) (1 + p) (m_i M' 256 p)) (258 + i) (9 + p) (m_i M' (218 + p) 5)) (258 + i) (17 + p) (m_i M' (218 + p) 6)) (258 + i) (9 + p) = m_i M' (218 + p) 5 := by rw [m_i_si, if_neg (by omega), m_i_si, if_pos ⟨rfl, rfl⟩]
      have y17 : m_i (m_si (m_si (m_si M' (258 + i) (1 + p) (m_i M' 256 p)) (258 + i) (9 + p) (m_i M' (218 + p) 5)) (258 + i) (17 + p) (m_i M' (218 + p) 6)) (258 + i) (17 + p) = m_i M' (218 + p) 6 := by rw [m_i_si, if_pos ⟨rfl, rfl⟩]
      generalize m_si (m_si (m_si M' (258 + i) (1 + p) (m_i M' 256 p)) (258 + i) (9 + p) (m_i M' (218 + p) 5)) (258 + i) (17 + p) (m_i M' (218 + p) 6) = M2 at *
      have hS2 := hS'.fr hF2
      have z1 : m_i M2 (258 + i) (1 + p) = m_i M2 256 p := by rw [y1, hF2.1 _ _ (by omega)]
      have z9 : m_i M2 (258 + i) (9 + p) = m_i M2 (218 + p) 5 := by rw [y9, hF2.1 _ _ (by omega)]
      have z17 : m_i M2 (258 + i) (17 + p) = m_i M2 (218 + p) 6 := by rw [y17, hF2.1 _ _ (by omega)]
      refine bRe_moves_70 _ _ _ _ _ ?_
      rw [show (1 : Int32) + nI p = nI 1 + nI p from rfl, show (9 : Int32) + nI p = nI 9 + nI p from rfl, c1, c9]
      simp (disch := omega) only [hS2.c, hS2.r_fed, hS2.s_fed, hS2.r_rKind, hS2.s_rKind, hS2.r_kind, hS2.s_kind, hS2.r_rNum, hS2.s_rNum, hS2.r_num, hS2.s_num, hS2.r_rLong, hS2.s_rLong, hS2.r_cLong, hS2.s_cLong, hS2.r_stack, hS2.s_stack, hS2.r_names, hS2.s_names, hS2.r_row, hS2.s_row, hS2.r_ruleOf, hS2.s_ruleOf, hS2.r_ways, hS2.s_ways, hS2.r_cWho, hS2.s_cWho, hS2.r_cMin, hS2.s_cMin, hS2.r_cOff, hS2.s_cOff, hS2.r_cTh, hS2.s_cTh, hS2.r_cEnd, hS2.s_cEnd, hS2.r_hds, hS2.s_hds, hS2.r_ends, hS2.s_ends, hS2.r_there, hS2.s_there, hS2.r_offd, hS2.s_offd, hS2.r_had, hS2.s_had, hS2.r_rPer, hS2.s_rPer, hS2.r_rP, hS2.s_rP, hS2.r_per, hS2.s_per, hS2.r_pr, hS2.s_pr, hS2.r_rCode, hS2.s_rCode, hS2.r_rC, hS2.s_rC, hS2.r_code, hS2.s_code, hS2.r_cd, hS2.s_cd, hS2.r_kept, hS2.s_kept, hS2.r_kp, hS2.s_kp, hS2.r_holder, hS2.s_holder, hS2.r_hd, hS2.s_hd, hS2.r_pass, hS2.s_pass, hS2.r_ps, hS2.s_ps, hS2.r_debt, hS2.s_debt, hS2.r_db, hS2.s_db, hS2.r_endBy, hS2.s_endBy, hS2.r_eb, hS2.s_eb, vpT, vpk0, clk0, vpk1, clk1, vpk2, clk2, vpk3, clk3, vpk4, clk4, vpk5, clk5, vpk6, clk6, vpk7, clk7, vpk8, clk8, vpk9, clk9, nI_clamp, nI_1, true_and, v1, v9]
      rw [m_si_self M2 256 p z1, m_si_self M2 (218 + p) 5 z9]
      refine bRe_moves_95 _ _ _ _ _ ?_
      rw [show (17 : Int32) + nI p = nI 17 + nI p from rfl, c17]
      simp (disch := omega) only [hS2.c, hS2.r_fed, hS2.s_fed, hS2.r_rKind, hS2.s_rKind, hS2.r_kind, hS2.s_kind, hS2.r_rNum, hS2.s_rNum, hS2.r_num, hS2.s_num, hS2.r_rLong, hS2.s_rLong, hS2.r_cLong, hS2.s_cLong, hS2.r_stack, hS2.s_stack, hS2.r_names, hS2.s_names, hS2.r_row, hS2.s_row, hS2.r_ruleOf, hS2.s_ruleOf, hS2.r_ways, hS2.s_ways, hS2.r_cWho, hS2.s_cWho, hS2.r_cMin, hS2.s_cMin, hS2.r_cOff, hS2.s_cOff, hS2.r_cTh, hS2.s_cTh, hS2.r_cEnd, hS2.s_cEnd, hS2.r_hds, hS2.s_hds, hS2.r_ends, hS2.s_ends, hS2.r_there, hS2.s_there, hS2.r_offd, hS2.s_offd, hS2.r_had, hS2.s_had, hS2.r_rPer, hS2.s_rPer, hS2.r_rP, hS2.s_rP, hS2.r_per, hS2.s_per, hS2.r_pr, hS2.s_pr, hS2.r_rCode, hS2.s_rCode, hS2.r_rC, hS2.s_rC, hS2.r_code, hS2.s_code, hS2.r_cd, hS2.s_cd, hS2.r_kept, hS2.s_kept, hS2.r_kp, hS2.s_kp, hS2.r_holder, hS2.s_holder, hS2.r_hd, hS2.s_hd, hS2.r_pass, hS2.s_pass, hS2.r_ps, hS2.s_ps, hS2.r_debt, hS2.s_debt, hS2.r_db, hS2.s_db, hS2.r_endBy, hS2.s_endBy, hS2.r_eb, hS2.s_eb, vpT, vpk0, clk0, vpk1, clk1, vpk2, clk2, vpk3, clk3, vpk4, clk4, vpk5, clk5, vpk6, clk6, vpk7, clk7, vpk8, clk8, vpk9, clk9, nI_clamp, nI_1, true_and, v17]
      rw [m_si_self M2 (218 + p) 6 z17]
      refine ih (p + 1) M2 (by omega) (hF.tr hF2) (by rw [y0 0 (by omega) (by omega) (by omega)]; exact h0) (fun j hj2 => ?_) (fun _ _ => trivial)
      by_cases z : j = p
      · subst z
        exact ⟨by rw [y1, hF.1 _ _ (by omega)], by rw [y9, hF.1 _ _ (by omega)], by rw [y17, hF.1 _ _ (by omega)]⟩
      · obtain ⟨b1, b2, b3⟩ := hj j (by omega)
        exact ⟨by rw [y0 _ (by omega) (by omega) (by omega)]; exact b1, by rw [y0 _ (by omega) (by omega) (by omega)]; exact b2, by rw [y0 _ (by omega) (by omega) (by omega)]; exact b3⟩
  exact loop 8 0 M0 (by omega) hF0 e0 (fun j hj => absurd hj (Nat.not_lt_zero j)) (fun _ _ => trivial)
end SRX
