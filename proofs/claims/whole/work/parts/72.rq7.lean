/-! ===== the reference: images ===== -/
section SRY
variable {l : Launch} {G : Gx} {d : Nat} {bc bs : Nat} {Φ : OutV → Mm → Prop}
def QM : Nat → Nat → Prop := fun a j => (a = 206 ∧ j = 27) ∨ a = 256 ∨ (218 ≤ a ∧ a < 218 + 8 ∧ (j = 5 ∨ j = 6))
theorem ct_movesT (M : Mm) (hS : RS M) (i : Nat) (hi : i < 3) (h : ∀ M', FrS QM M M' → m_i M' 206 27 = m_i M (258 + i) 0 → (∀ j, j < 8 → m_i M' 256 j = m_i M (258 + i) (1 + j) ∧ m_i M' (218 + j) 5 = m_i M (258 + i) (9 + j) ∧ m_i M' (218 + j) 6 = m_i M (258 + i) (17 + j)) → Φ (.inl none) M') : Ct l G d mRe_moves bc bs [.ref 206, .ref (258 + i), .int 1] M Φ := by
  refine Ct.of rfl (Nat.le_of_ble_eq_true rfl) ?_
  refine bRe_moves_0 _ _ _ _ ⟨fun _ => ?_, fun z => absurd z (by decide)⟩
  refine bRe_moves_11 _ _ _ _ _ ?_
  simp (disch := omega) only [hS.c, hS.r_fed, hS.s_fed, hS.r_rKind, hS.s_rKind, hS.r_kind, hS.s_kind, hS.r_rNum, hS.s_rNum, hS.r_num, hS.s_num, hS.r_rLong, hS.s_rLong, hS.r_cLong, hS.s_cLong, hS.r_stack, hS.s_stack, hS.r_names, hS.s_names, hS.r_row, hS.s_row, hS.r_ruleOf, hS.s_ruleOf, hS.r_ways, hS.s_ways, hS.r_cWho, hS.s_cWho, hS.r_cMin, hS.s_cMin, hS.r_cOff, hS.s_cOff, hS.r_cTh, hS.s_cTh, hS.r_cEnd, hS.s_cEnd, hS.r_hds, hS.s_hds, hS.r_ends, hS.s_ends, hS.r_there, hS.s_there, hS.r_offd, hS.s_offd, hS.r_had, hS.s_had, hS.r_rPer, hS.s_rPer, hS.r_rP, hS.s_rP, hS.r_per, hS.s_per, hS.r_pr, hS.s_pr, hS.r_rCode, hS.s_rCode, hS.r_rC, hS.s_rC, hS.r_code, hS.s_code, hS.r_cd, hS.s_cd, hS.r_kept, hS.s_kept, hS.r_kp, hS.s_kp, hS.r_holder, hS.s_holder, hS.r_hd, hS.s_hd, hS.r_pass, hS.s_pass, hS.r_ps, hS.s_ps, hS.r_debt, hS.s_debt, hS.r_db, hS.s_db, hS.r_endBy, hS.s_endBy, hS.r_eb, hS.s_eb, vpT, vpk0, clk0, vpk1, clk1, vpk2, clk2, vpk3, clk3, vpk4, clk4, vpk5, clk5, vpk6, clk6, vpk7, clk7, vpk8, clk8, vpk9, clk9, nI_clamp, nI_1, true_and]
  have loop : ∀ e p M', p + e = 8 → FrS QM M M' → m_i M' 206 27 = m_i M (258 + i) 0 → (∀ j, j < p → m_i M' 256 j = m_i M (258 + i) (1 + j) ∧ m_i M' (218 + j) 5 = m_i M (258 + i) (9 + j) ∧ m_i M' (218 + j) 6 = m_i M (258 + i) (17 + j)) → Ev l G d mRe_moves 20 [.ref 206, .ref (258 + i), .int 1, .int (nI p)] [] M' bc bs Φ := by
    intro e
    induction e with
    | zero =>
      intro p M' hp hF h0 hj
      exact bRe_moves_20 _ _ _ _ _ ⟨fun _ => h M' hF h0 (fun j hj8 => hj j (by omega)), fun z => absurd (nI_le (a := 8) (by omega) (by omega)) z⟩
    | succ e ih =>
      intro p M' hp hF h0 hj
      have hS' := hS.fr hF
      have v1 := vp17 (i := p) 1 (by omega) (by omega)
      have v9 := vp17 (i := p) 9 (by omega) (by omega)
      have v17 := vp17 (i := p) 17 (by omega) (by omega)
      have c1 := cl17 (i := p) 1 (by omega) (by omega)
      have c9 := cl17 (i := p) 9 (by omega) (by omega)
      have c17 := cl17 (i := p) 17 (by omega) (by omega)
      refine bRe_moves_20 _ _ _ _ _ ⟨fun z => absurd z (nI_not_le (b := 8) (by omega) (by omega)), fun _ => ⟨fun _ => ?_, fun z => absurd z (by decide)⟩⟩
      refine bRe_moves_70 _ _ _ _ _ ?_
      rw [show (1 : Int32) + nI p = nI 1 + nI p from rfl, show (9 : Int32) + nI p = nI 9 + nI p from rfl, c1, c9]
      have k1 : m_i M' (258 + i) (1 + p) = m_i M (258 + i) (1 + p) := hF.1 _ _ (by unfold QM; omega)
      have k9 : m_i (m_si M' 256 p (m_i M (258 + i) (1 + p))) (258 + i) (9 + p) = m_i M (258 + i) (9 + p) := by rw [m_i_si, if_neg (by omega), hF.1 _ _ (by unfold QM; omega)]
      simp (disch := omega) only [hS'.c, hS'.r_fed, hS'.s_fed, hS'.r_rKind, hS'.s_rKind, hS'.r_kind, hS'.s_kind, hS'.r_rNum, hS'.s_rNum, hS'.r_num, hS'.s_num, hS'.r_rLong, hS'.s_rLong, hS'.r_cLong, hS'.s_cLong, hS'.r_stack, hS'.s_stack, hS'.r_names, hS'.s_names, hS'.r_row, hS'.s_row, hS'.r_ruleOf, hS'.s_ruleOf, hS'.r_ways, hS'.s_ways, hS'.r_cWho, hS'.s_cWho, hS'.r_cMin, hS'.s_cMin, hS'.r_cOff, hS'.s_cOff, hS'.r_cTh, hS'.s_cTh, hS'.r_cEnd, hS'.s_cEnd, hS'.r_hds, hS'.s_hds, hS'.r_ends, hS'.s_ends, hS'.r_there, hS'.s_there, hS'.r_offd, hS'.s_offd, hS'.r_had, hS'.s_had, hS'.r_rPer, hS'.s_rPer, hS'.r_rP, hS'.s_rP, hS'.r_per, hS'.s_per, hS'.r_pr, hS'.s_pr, hS'.r_rCode, hS'.s_rCode, hS'.r_rC, hS'.s_rC, hS'.r_code, hS'.s_code, hS'.r_cd, hS'.s_cd, hS'.r_kept, hS'.s_kept, hS'.r_kp, hS'.s_kp, hS'.r_holder, hS'.s_holder, hS'.r_hd, hS'.s_hd, hS'.r_pass, hS'.s_pass, hS'.r_ps, hS'.s_ps, hS'.r_debt, hS'.s_debt, hS'.r_db, hS'.s_db, hS'.r_endBy, hS'.s_endBy, hS'.r_eb, hS'.s_eb, vpT, vpk0, clk0, vpk1, clk1, vpk2, clk2, vpk3, clk3, vpk4, clk4, vpk5, clk5, vpk6, clk6, vpk7, clk7, vpk8, clk8, vpk9, clk9, nI_clamp, nI_1, true_and, v1, v9, k1, k9]
      refine bRe_moves_95 _ _ _ _ _ ?_
      rw [show (17 : Int32) + nI p = nI 17 + nI p from rfl, c17]
      simp only [m_sh_si, m_r_si]
      have k17 : m_i (m_si (m_si M' 256 p (m_i M (258 + i) (1 + p))) (218 + p) 5 (m_i M (258 + i) (9 + p))) (258 + i) (17 + p) = m_i M (258 + i) (17 + p) := by rw [m_i_si, if_neg (by omega), m_i_si, if_neg (by omega), hF.1 _ _ (by unfold QM; omega)]
      simp (disch := omega) only [hS'.c, hS'.r_fed, hS'.s_fed, hS'.r_rKind, hS'.s_rKind, hS'.r_kind, hS'.s_kind, hS'.r_rNum, hS'.s_rNum, hS'.r_num, hS'.s_num, hS'.r_rLong, hS'.s_rLong, hS'.r_cLong, hS'.s_cLong, hS'.r_stack, hS'.s_stack, hS'.r_names, hS'.s_names, hS'.r_row, hS'.s_row, hS'.r_ruleOf, hS'.s_ruleOf, hS'.r_ways, hS'.s_ways, hS'.r_cWho, hS'.s_cWho, hS'.r_cMin, hS'.s_cMin, hS'.r_cOff, hS'.s_cOff, hS'.r_cTh, hS'.s_cTh, hS'.r_cEnd, hS'.s_cEnd, hS'.r_hds, hS'.s_hds, hS'.r_ends, hS'.s_ends, hS'.r_there, hS'.s_there, hS'.r_offd, hS'.s_offd, hS'.r_had, hS'.s_had, hS'.r_rPer, hS'.s_rPer, hS'.r_rP, hS'.s_rP, hS'.r_per, hS'.s_per, hS'.r_pr, hS'.s_pr, hS'.r_rCode, hS'.s_rCode, hS'.r_rC, hS'.s_rC, hS'.r_code, hS'.s_code, hS'.r_cd, hS'.s_cd, hS'.r_kept, hS'.s_kept, hS'.r_kp, hS'.s_kp, hS'.r_holder, hS'.s_holder, hS'.r_hd, hS'.s_hd, hS'.r_pass, hS'.s_pass, hS'.r_ps, hS'.s_ps, hS'.r_debt, hS'.s_debt, hS'.r_db, hS'.s_db, hS'.r_endBy, hS'.s_endBy, hS'.r_eb, hS'.s_eb, vpT, vpk0, clk0, vpk1, clk1, vpk2, clk2, vpk3, clk3, vpk4, clk4, vpk5, clk5, vpk6, clk6, vpk7, clk7, vpk8, clk8, vpk9, clk9, nI_clamp, nI_1, true_and, v17, k17]
      refine ih (p + 1) _ (by omega) (((hF.tr (FrS.si (by unfold QM; omega) _)).tr (FrS.si (by unfold QM; omega) _)).tr (FrS.si (by unfold QM; omega) _)) ?_ (fun j hj2 => ⟨?_, ?_, ?_⟩)
      · rw [m_i_si, if_neg (by omega), m_i_si, if_neg (by omega), m_i_si, if_neg (by omega)]; exact h0
      · rw [m_i_si, if_neg (by omega), m_i_si, if_neg (by omega), m_i_si]
        by_cases z : j = p
        · rw [if_pos ⟨rfl, z⟩, z]
        · rw [if_neg (fun q => z q.2)]; exact (hj j (by omega)).1
      · rw [m_i_si, if_neg (by omega), m_i_si]
        by_cases z : j = p
        · rw [if_pos ⟨by omega, rfl⟩, z]
        · rw [if_neg (by omega), m_i_si, if_neg (by omega)]; exact (hj j (by omega)).2.1
      · rw [m_i_si]
        by_cases z : j = p
        · rw [if_pos ⟨by omega, rfl⟩, z]
        · rw [if_neg (by omega), m_i_si, if_neg (by omega), m_i_si, if_neg (by omega)]; exact (hj j (by omega)).2.2
  exact loop 8 0 _ (by omega) (FrS.si (by unfold QM; omega) _) (by rw [m_i_si, if_pos ⟨rfl, rfl⟩]) (fun j hj => absurd hj (Nat.not_lt_zero j))
theorem ct_r_image (M : Mm) (w : Wd) (hw : WOK w) (hI : RINV M w) (hd : 0 < d) (h : RPost M (aImage w) Φ) : Ct l G d mRe_image bc bs [.ref 206] M Φ := by
  refine Ct.of rfl (Nat.le_of_ble_eq_true rfl) ?_
  have n8 := hw.1
  obtain ⟨hF0, hI0, t0⟩ := hI.t0 hw
  have hS0 := hI0.1
  have hic := hw.2.2.2.2.2.2.2.2.1
  have e28 := hI0.2.2.2.2.2.2.2.1
  have e3 : nI (w_ic w) = 3 ↔ w_ic w = 3 := nI_eq (b := 3) (by omega) (by omega)
  have hS := hI.1
  refine bRe_image_0 _ _ ⟨hS.c, ?_⟩
  rw [e28, e3]
  refine ⟨fun z => ?_, fun z => h.done hw hF0 hI0 t0 (if_pos z)⟩
  simp (disch := omega) only [hS.c, hS.r_fed, hS.s_fed, hS.r_rKind, hS.s_rKind, hS.r_kind, hS.s_kind, hS.r_rNum, hS.s_rNum, hS.r_num, hS.s_num, hS.r_rLong, hS.s_rLong, hS.r_cLong, hS.s_cLong, hS.r_stack, hS.s_stack, hS.r_names, hS.s_names, hS.r_row, hS.s_row, hS.r_ruleOf, hS.s_ruleOf, hS.r_ways, hS.s_ways, hS.r_cWho, hS.s_cWho, hS.r_cMin, hS.s_cMin, hS.r_cOff, hS.s_cOff, hS.r_cTh, hS.s_cTh, hS.r_cEnd, hS.s_cEnd, hS.r_hds, hS.s_hds, hS.r_ends, hS.s_ends, hS.r_there, hS.s_there, hS.r_offd, hS.s_offd, hS.r_had, hS.s_had, hS.r_rPer, hS.s_rPer, hS.r_rP, hS.s_rP, hS.r_per, hS.s_per, hS.r_pr, hS.s_pr, hS.r_rCode, hS.s_rCode, hS.r_rC, hS.s_rC, hS.r_code, hS.s_code, hS.r_cd, hS.s_cd, hS.r_kept, hS.s_kept, hS.r_kp, hS.s_kp, hS.r_holder, hS.s_holder, hS.r_hd, hS.s_hd, hS.r_pass, hS.s_pass, hS.r_ps, hS.s_ps, hS.r_debt, hS.s_debt, hS.r_db, hS.s_db, hS.r_endBy, hS.s_endBy, hS.r_eb, hS.s_eb, vpT, vpk0, clk0, vpk1, clk1, vpk2, clk2, vpk3, clk3, vpk4, clk4, vpk5, clk5, vpk6, clk6, vpk7, clk7, vpk8, clk8, vpk9, clk9, nI_clamp, nI_1, true_and]
  generalize m_si M 206 0 0 = M0 at *
  refine CallVC.cps0 (by omega) (ct_movesF M0 hS0 (w_ic w) (by omega) (fun M1 hF1 k0 kj => ?_))
  have hS1 := hS0.fr hF1
  refine bRe_image_29 _ _ ⟨hS1.c, ?_⟩
  rw [hF1.1 _ _ (by omega), e28, nI_1, m_i_si, if_pos ⟨rfl, rfl⟩]
  have hF2 : FrS (fun a j => a = 258 + w_ic w ∨ (a = 206 ∧ j = 28)) M0 (m_si M1 206 28 (nI (w_ic w + 1))) := (hF1.mono (fun a j q => Or.inl q)).tr (FrS.si (Or.inr ⟨rfl, rfl⟩) _)
  have ha : aImage w = (0, nI (w_ic w + 1), ws_im w (w_ic w + 1) (fun i => if i = w_ic w then (fun p => w_F w p 5, fun p => w_F w p 6, w_sr w, w_ss w) else w_im w i)) := if_neg z
  rw [ha] at h
  obtain ⟨a1, a2, a3, a4, a5, a6, a7, a8, a9⟩ := id hI0
  have y28 : m_i (m_si M1 206 28 (nI (w_ic w + 1))) 206 28 = nI (w_ic w + 1) := by rw [m_i_si, if_pos ⟨rfl, rfl⟩]
  have yk : ∀ j, m_i (m_si M1 206 28 (nI (w_ic w + 1))) (258 + w_ic w) j = m_i M1 (258 + w_ic w) j := fun j => by rw [m_i_si, if_neg (by omega)]
  generalize m_si M1 206 28 (nI (w_ic w + 1)) = M2 at *
  refine h _ ((hF0.mono QR.f).tr (hF2.mono (fun a j q => by unfold RF; omega))) ?_ (by rw [hF2.1 _ _ (by omega)]; exact t0)
  refine ⟨a1.fr hF2, a2.fr hF2 (by omega) (fun p j hp => by omega), a3.fr hF2 (by omega) (fun j => by omega) (fun j => by omega) (fun j => by omega) (fun i j hi => by omega), ⟨by rw [hF2.1 _ _ (by omega)]; exact a4.1, by rw [hF2.1 _ _ (by omega)]; exact a4.2.1, by rw [hF2.1 _ _ (by omega)]; exact a4.2.2⟩, ⟨by rw [hF2.1 _ _ (by omega)]; exact a5.1, fun i hi => by rw [hF2.1 _ _ (by omega)]; exact a5.2 i hi⟩, by rw [hF2.1 _ _ (by omega)]; exact a6, ⟨by rw [hF2.1 _ _ (by omega)]; exact a7.1, fun j hj => by rw [hF2.1 _ _ (by omega)]; exact a7.2 j hj⟩, y28, fun i hi2 => ?_⟩
  have hi3 : i < w_ic w + 1 := hi2
  show RKp M2 (w_n w) i (if i = w_ic w then (fun p => w_F w p 5, fun p => w_F w p 6, w_sr w, w_ss w) else w_im w i)
  by_cases y : i = w_ic w
  · subst y
    rw [if_pos rfl]
    refine ⟨by rw [yk, k0]; exact a7.1, fun j hj => by rw [yk, (kj j hj).1]; exact a7.2 j hj, fun p hp => ⟨?_, ?_⟩⟩
    · rw [yk, (kj p (by omega)).2.1]; exact a2.2.2 p 5 hp (by omega)
    · rw [yk, (kj p (by omega)).2.2]; exact a2.2.2 p 6 hp (by omega)
  · rw [if_neg y]
    exact (a9 i (by omega)).fr hF2 (fun j => by omega)
theorem ct_r_restore (M : Mm) (w : Wd) (hw : WOK w) (hI : RINV M w) (hd : 0 < d) (h : RPost M (aRestore w) Φ) : Ct l G d mRe_restore bc bs [.ref 206] M Φ := by
  refine Ct.of rfl (Nat.le_of_ble_eq_true rfl) ?_
  have n8 := hw.1
  obtain ⟨hF0, hI0, t0⟩ := hI.t0 hw
  have hS0 := hI0.1
  have hic := hw.2.2.2.2.2.2.2.2.1
  have e28 := hI0.2.2.2.2.2.2.2.1
  have e3 : nI (w_ic w) = 0 ↔ w_ic w = 0 := nI_eq (b := 0) (by omega) (by omega)
  have hS := hI.1
  refine bRe_restore_0 _ _ ⟨hS.c, ?_⟩
  rw [e28, e3]
  refine ⟨fun z => ?_, fun z => h.done hw hF0 hI0 t0 (if_pos z)⟩
  generalize m_si M 206 0 0 = M0 at *
  obtain ⟨k, hk⟩ : ∃ k, w_ic w = k + 1 := ⟨w_ic w - 1, by omega⟩
  rw [hk, nI_pred]
  have hF1 : FrS (fun a j => a = 206 ∧ j = 28) M0 (m_si M0 206 28 (nI k)) := FrS.si ⟨rfl, rfl⟩ _
  have y28 : m_i (m_si M0 206 28 (nI k)) 206 28 = nI k := by rw [m_i_si, if_pos ⟨rfl, rfl⟩]
  generalize m_si M0 206 28 (nI k) = M1 at *
  have hS1 := hS0.fr hF1
  refine bRe_restore_24 _ _ ?_
  simp (disch := omega) only [hS1.c, hS1.r_fed, hS1.s_fed, hS1.r_rKind, hS1.s_rKind, hS1.r_kind, hS1.s_kind, hS1.r_rNum, hS1.s_rNum, hS1.r_num, hS1.s_num, hS1.r_rLong, hS1.s_rLong, hS1.r_cLong, hS1.s_cLong, hS1.r_stack, hS1.s_stack, hS1.r_names, hS1.s_names, hS1.r_row, hS1.s_row, hS1.r_ruleOf, hS1.s_ruleOf, hS1.r_ways, hS1.s_ways, hS1.r_cWho, hS1.s_cWho, hS1.r_cMin, hS1.s_cMin, hS1.r_cOff, hS1.s_cOff, hS1.r_cTh, hS1.s_cTh, hS1.r_cEnd, hS1.s_cEnd, hS1.r_hds, hS1.s_hds, hS1.r_ends, hS1.s_ends, hS1.r_there, hS1.s_there, hS1.r_offd, hS1.s_offd, hS1.r_had, hS1.s_had, hS1.r_rPer, hS1.s_rPer, hS1.r_rP, hS1.s_rP, hS1.r_per, hS1.s_per, hS1.r_pr, hS1.s_pr, hS1.r_rCode, hS1.s_rCode, hS1.r_rC, hS1.s_rC, hS1.r_code, hS1.s_code, hS1.r_cd, hS1.s_cd, hS1.r_kept, hS1.s_kept, hS1.r_kp, hS1.s_kp, hS1.r_holder, hS1.s_holder, hS1.r_hd, hS1.s_hd, hS1.r_pass, hS1.s_pass, hS1.r_ps, hS1.s_ps, hS1.r_debt, hS1.s_debt, hS1.r_db, hS1.s_db, hS1.r_endBy, hS1.s_endBy, hS1.r_eb, hS1.s_eb, vpT, vpk0, clk0, vpk1, clk1, vpk2, clk2, vpk3, clk3, vpk4, clk4, vpk5, clk5, vpk6, clk6, vpk7, clk7, vpk8, clk8, vpk9, clk9, nI_clamp, nI_1, true_and, y28]
  refine CallVC.cps0 (by omega) (ct_movesT M1 hS1 k (by omega) (fun M2 hF2 h27 hj => ?_))
  have hS2 := hS1.fr hF2
  refine bRe_restore_38 _ _ ⟨hS2.c, ?_⟩
  have z28 : m_i M2 206 28 = nI k := by rw [hF2.1 _ _ (by unfold QM; omega)]; exact y28
  rw [z28]
  have ha : aRestore w = (0, nI k, ws_im (ws_sr (ws_F w (backF w (w_im w k))) (w_im w k).2.2.1 (w_im w k).2.2.2) k (w_im w)) := by
    unfold aRestore
    rw [if_neg z, hk, Nat.add_sub_cancel]
  rw [ha] at h
  have hF3 : FrS (fun a j => QM a j ∨ (a = 206 ∧ j = 28)) M0 M2 := (hF1.mono (fun a j q => Or.inr q)).tr (hF2.mono (fun a j q => Or.inl q))
  obtain ⟨a1, a2, a3, a4, a5, a6, a7, a8, a9⟩ := id hI0
  obtain ⟨b1, b2, b3⟩ := a9 k (by omega)
  have g1 : ∀ j, m_i M1 (258 + k) j = m_i M0 (258 + k) j := fun j => hF1.1 _ _ (by omega)
  refine h _ ((hF0.mono QR.f).tr (hF3.mono (fun a j q => by unfold QM at q; unfold RF; omega))) ?_ (by rw [hF3.1 _ _ (by unfold QM; omega)]; exact t0)
  refine ⟨a1.fr hF3, ⟨by rw [hF3.1 _ _ (by unfold QM; omega)]; exact a2.1, a2.2.1, fun p c hp hc => ?_⟩, a3.fr hF3 (by unfold QM; omega) (fun j => by unfold QM; omega) (fun j => by unfold QM; omega) (fun j => by unfold QM; omega) (fun i j hi => by unfold QM; omega), ⟨by rw [hF3.1 _ _ (by unfold QM; omega)]; exact a4.1, by rw [hF3.1 _ _ (by unfold QM; omega)]; exact a4.2.1, by rw [hF3.1 _ _ (by unfold QM; omega)]; exact a4.2.2⟩, ⟨by rw [hF3.1 _ _ (by unfold QM; omega)]; exact a5.1, fun i hi => by rw [hF3.1 _ _ (by unfold QM; omega)]; exact a5.2 i hi⟩, by rw [hF3.1 _ _ (by unfold QM; omega)]; exact a6, ⟨by rw [h27, g1]; exact b1, fun j hj8 => by rw [(hj j hj8).1, g1]; exact b2 j hj8⟩, z28, fun i hi2 => (a9 i (by have : i < k := hi2; omega)).fr hF3 (fun j => by have : i < k := hi2; unfold QM; omega)⟩
  replace hp : p < w_n w := hp
  show _ = nI (backF w (w_im w k) p c)
  unfold backF
  by_cases c5 : c = 5
  · subst c5
    rw [if_pos ⟨hp, rfl⟩, (hj p (by omega)).2.1, g1]
    exact (b3 p hp).1
  · rw [if_neg (fun q => c5 q.2)]
    by_cases c6 : c = 6
    · subst c6
      rw [if_pos ⟨hp, rfl⟩, (hj p (by omega)).2.2, g1]
      exact (b3 p hp).2
    · rw [if_neg (fun q => c6 q.2), hF3.1 _ _ (by unfold QM; omega)]
      exact a2.2.2 p c hp hc
end SRY
