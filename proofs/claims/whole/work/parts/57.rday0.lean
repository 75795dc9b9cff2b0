/-! ===== the reference's DAY: leaves ===== -/
theorem vpT {p n : Nat} (h : p < n) (h2 : n < 2 ^ 31) : vp_in (nI p) n ↔ True := iff_true_intro (vp_in_nI h h2)
theorem vpk0 {n : Nat} (h : 0 < n) (h2 : n < 2 ^ 31) : vp_in 0 n ↔ True := iff_true_intro (show vp_in (nI 0) n from vp_in_nI h h2)
theorem clk0 : (0 : Int32).toNatClampNeg = 0 := rfl
theorem vpk1 {n : Nat} (h : 1 < n) (h2 : n < 2 ^ 31) : vp_in 1 n ↔ True := iff_true_intro (show vp_in (nI 1) n from vp_in_nI h h2)
theorem clk1 : (1 : Int32).toNatClampNeg = 1 := rfl
theorem vpk2 {n : Nat} (h : 2 < n) (h2 : n < 2 ^ 31) : vp_in 2 n ↔ True := iff_true_intro (show vp_in (nI 2) n from vp_in_nI h h2)
theorem clk2 : (2 : Int32).toNatClampNeg = 2 := rfl
theorem vpk3 {n : Nat} (h : 3 < n) (h2 : n < 2 ^ 31) : vp_in 3 n ↔ True := iff_true_intro (show vp_in (nI 3) n from vp_in_nI h h2)
theorem clk3 : (3 : Int32).toNatClampNeg = 3 := rfl
theorem vpk4 {n : Nat} (h : 4 < n) (h2 : n < 2 ^ 31) : vp_in 4 n ↔ True := iff_true_intro (show vp_in (nI 4) n from vp_in_nI h h2)
theorem clk4 : (4 : Int32).toNatClampNeg = 4 := rfl
theorem vpk5 {n : Nat} (h : 5 < n) (h2 : n < 2 ^ 31) : vp_in 5 n ↔ True := iff_true_intro (show vp_in (nI 5) n from vp_in_nI h h2)
theorem clk5 : (5 : Int32).toNatClampNeg = 5 := rfl
theorem vpk6 {n : Nat} (h : 6 < n) (h2 : n < 2 ^ 31) : vp_in 6 n ↔ True := iff_true_intro (show vp_in (nI 6) n from vp_in_nI h h2)
theorem clk6 : (6 : Int32).toNatClampNeg = 6 := rfl
theorem vpk7 {n : Nat} (h : 7 < n) (h2 : n < 2 ^ 31) : vp_in 7 n ↔ True := iff_true_intro (show vp_in (nI 7) n from vp_in_nI h h2)
theorem clk7 : (7 : Int32).toNatClampNeg = 7 := rfl
theorem vpk8 {n : Nat} (h : 8 < n) (h2 : n < 2 ^ 31) : vp_in 8 n ↔ True := iff_true_intro (show vp_in (nI 8) n from vp_in_nI h h2)
theorem clk8 : (8 : Int32).toNatClampNeg = 8 := rfl
theorem vpk9 {n : Nat} (h : 9 < n) (h2 : n < 2 ^ 31) : vp_in 9 n ↔ True := iff_true_intro (show vp_in (nI 9) n from vp_in_nI h h2)
theorem clk9 : (9 : Int32).toNatClampNeg = 9 := rfl
/-- what is settled before a DAY -/
def RDc (M : Mm) (c : Cf) (R : List RU) (out : Nat) : Prop := RS M ∧ RPrep M (c_n c) (c_f c) ∧ RRrep M R ∧ (∀ r ∈ R, RUok r) ∧ LRd M R out ∧ (∀ k, c_nu c k = nuS R out R.length k) ∧ c_mu c = mustF R (c_nu c) (c_f c) ∧ c_wo c = worthF R (c_nu c) (c_f c) ∧
  m_i M 206 34 = oN (c_pl c) ∧ (∀ p, c_pl c = some p → m_i M 206 35 = c_pb c) ∧ m_i M 206 37 = oN (c_tu c) ∧ (∀ p, c_tu c = some p → m_i M 206 38 = c_tc c ∧ m_i M 206 39 = nI (c_tw c)) ∧ ∀ p, p < c_n c → m_i M 262 p = nI (c_wy c p)
/-- what a DAY writes -/
def QD : Nat → Nat → Prop := fun a j => a = 254 ∨ a = 255 ∨ (a = 206 ∧ (j = 36 ∨ (40 ≤ j ∧ j ≤ 44) ∨ j = 57)) ∨ (263 ≤ a ∧ a ≤ 269) ∨ (271 ≤ a ∧ a < 280) ∨ (281 ≤ a ∧ a ≤ 347)
def QN : Nat → Nat → Prop := fun a _ => a = 254 ∨ a = 255
theorem RDc.fr {M M' : Mm} {c : Cf} {R : List RU} {out : Nat} (h : RDc M c R out) (hF : FrS QD M M') : RDc M' c R out := by
  obtain ⟨a1, a2, a3, a4, a5, a6, a7, a8, a9, a10, a11, a12, a13⟩ := h
  exact ⟨a1.fr hF, a2.fr hF (by unfold QD; omega) (fun p j hp => by unfold QD; omega), a3.fr hF (by unfold QD; omega) (fun j => by unfold QD; omega) (fun j => by unfold QD; omega) (fun j => by unfold QD; omega) (fun i j hi => by unfold QD; omega), a4, fun w hw => by rw [hF.1 _ _ (by unfold QD; omega)]; exact a5 w hw, a6, a7, a8, by rw [hF.1 _ _ (by unfold QD; omega)]; exact a9, fun p hp => by rw [hF.1 _ _ (by unfold QD; omega)]; exact a10 p hp, by rw [hF.1 _ _ (by unfold QD; omega)]; exact a11, fun p hp => by rw [hF.1 _ _ (by unfold QD; omega), hF.1 _ _ (by unfold QD; omega)]; exact a12 p hp, fun p hp => by rw [hF.1 _ _ (by unfold QD; omega)]; exact a13 p hp⟩
theorem QN.d : ∀ a j, QN a j → QD a j := fun a j h => by unfold QN at h; unfold QD; omega
theorem RDc.frN {M M' : Mm} {c : Cf} {R : List RU} {out : Nat} (h : RDc M c R out) (hF : FrS QN M M') : RDc M' c R out := h.fr (hF.mono QN.d)
theorem held_ref (v : Int32) : heldS v = if 0 ≤ v then (if v ≤ 99 then v else 99) else 0 := by
  have e0 : (0 : Int32).toInt = 0 := rfl
  have e99 : (99 : Int32).toInt = 99 := rfl
  have a1 : v < 99 ↔ v.toInt < 99 := by rw [Int32.lt_iff_toInt_lt, e99]
  have a2 : (0 : Int32) ≤ v ↔ 0 ≤ v.toInt := by rw [Int32.le_iff_toInt_le, e0]
  have a3 : v ≤ 99 ↔ v.toInt ≤ 99 := by rw [Int32.le_iff_toInt_le, e99]
  have a4 : (0 : Int32) < v ↔ 0 < v.toInt := by rw [Int32.lt_iff_toInt_lt, e0]
  unfold heldS
  by_cases h1 : v < 99
  · simp only [if_pos h1]
    by_cases h2 : (0 : Int32) < v
    · rw [if_pos h2, if_pos (a2.mpr (by have := a4.mp h2; omega)), if_pos (a3.mpr (by have := a1.mp h1; omega))]
    · rw [if_neg h2]
      by_cases h3 : (0 : Int32) ≤ v
      · rw [if_pos h3, if_pos (a3.mpr (by have := a1.mp h1; omega))]
        have : v.toInt = 0 := by
          have := a2.mp h3
          have : ¬ 0 < v.toInt := fun z => h2 (a4.mpr z)
          omega
        exact (i32_lit this 0 rfl).symm
      · rw [if_neg h3]
  · simp only [if_neg h1]
    rw [if_pos (by decide), if_pos (a2.mpr (by have : ¬ v.toInt < 99 := fun z => h1 (a1.mpr z); omega))]
    by_cases h3 : v ≤ 99
    · rw [if_pos h3]
      have : v.toInt = 99 := by
        have := a3.mp h3
        have : ¬ v.toInt < 99 := fun z => h1 (a1.mpr z)
        omega
      exact (i32_lit this 99 rfl).symm
    · rw [if_neg h3]
section SR2
variable {l : Launch} {G : Gx} {d : Nat} {bc bs : Nat} {Φ : OutV → Mm → Prop}
theorem RDc.ru {M : Mm} {c : Cf} {R : List RU} {out : Nat} (h : RDc M c R out) (w : Nat) (hw : w = 6 ∨ w = 7) (hne : ¬ c_nu c (w + 2) = -1) : ∃ r, r < R.length ∧ r < 10 ∧ c_nu c (w + 2) = nI r ∧ (R.getD r ru0).1 = w + 2 ∧ RUok (R.getD r ru0) ∧ m_i M 231 r = nI (cpos (R.getD r ru0).2.2 (R.getD r ru0).2.2.length) ∧ cpos (R.getD r ru0).2.2 (R.getD r ru0).2.2.length ≤ 800 ∧ CDrep M (244 + r) (R.getD r ru0).2.2 := by
  obtain ⟨a1, a2, a3, a4, a5, a6, -⟩ := h
  rw [a6, nuS_ru hw] at hne
  have h10 := a3.2.1
  rcases ruO_some (R := R) (out := out) (w := w) R.length with z | ⟨r, r1, r2, r3⟩
  · exact absurd z hne
  · obtain ⟨b1, b2, b3⟩ := (a3.2.2 r r1).2.2 (by omega)
    refine ⟨r, r1, by omega, by rw [a6, nuS_ru hw, r2], r3, a4 _ ?_, b1, b2, b3⟩
    rw [List.getD_eq_getElem?_getD, List.getElem?_eq_getElem r1]
    exact List.getElem_mem r1
theorem ct_mustBe (M : Mm) (c : Cf) (R : List RU) (out : Nat) (hC : RDc M c R out) (g o h : Nat) (hg : g < c_n c) (ho : o < c_n c) (hd : 1 < d) (hk : ∀ M', FrS QN M M' → Φ (.inl (some (.int (if c_mu c g o h = true then 1 else 0)))) M') : Ct l G d mRe_mustBe bc bs [.ref 206, .int (nI g), .int (nI o), .int (nI h)] M Φ := by
  obtain ⟨hS, hP, hR, -, hL, hnu, hmu, -⟩ := id hC
  have e7 : m_i M 261 7 = c_nu c 9 := by rw [hL 7 (by omega), hnu 9, ← nuS_ru (w := 7) (Or.inr rfl)]
  refine Ct.of rfl (Nat.le_of_ble_eq_true rfl) ?_
  refine bRe_mustBe_0 M 206 _ _ _ ?_
  simp (disch := omega) only [hS.c, hS.r_fed, hS.s_fed, hS.r_rKind, hS.s_rKind, hS.r_kind, hS.s_kind, hS.r_rNum, hS.s_rNum, hS.r_num, hS.s_num, hS.r_rLong, hS.s_rLong, hS.r_cLong, hS.s_cLong, hS.r_stack, hS.s_stack, hS.r_names, hS.s_names, hS.r_row, hS.s_row, hS.r_ruleOf, hS.s_ruleOf, hS.r_ways, hS.s_ways, hS.r_cWho, hS.s_cWho, hS.r_cMin, hS.s_cMin, hS.r_cOff, hS.s_cOff, hS.r_cTh, hS.s_cTh, hS.r_cEnd, hS.s_cEnd, hS.r_hds, hS.s_hds, hS.r_ends, hS.s_ends, hS.r_there, hS.s_there, hS.r_offd, hS.s_offd, hS.r_had, hS.s_had, hS.r_rPer, hS.s_rPer, hS.r_rP, hS.s_rP, hS.r_per, hS.s_per, hS.r_pr, hS.s_pr, hS.r_rCode, hS.s_rCode, hS.r_rC, hS.s_rC, hS.r_code, hS.s_code, hS.r_cd, hS.s_cd, hS.r_kept, hS.s_kept, hS.r_kp, hS.s_kp, hS.r_holder, hS.s_holder, hS.r_hd, hS.s_hd, hS.r_pass, hS.s_pass, hS.r_ps, hS.s_ps, hS.r_debt, hS.s_debt, hS.r_db, hS.s_db, hS.r_endBy, hS.s_endBy, hS.r_eb, hS.s_eb, vpT, vpk0, clk0, vpk1, clk1, vpk2, clk2, vpk3, clk3, vpk4, clk4, vpk5, clk5, vpk6, clk6, vpk7, clk7, vpk8, clk8, vpk9, clk9, nI_clamp, nI_1, true_and, e7]
  refine ⟨fun q => CallVC.cps0 (by omega) (ct_layNames M hS _ _ hP g o hg ho _ (fun M1 hF1 hN1 => ?_)), fun q => ?_⟩
  · obtain ⟨r, r1, r10, r2, r3, r4, r5, r6, r7⟩ := hC.ru 7 (Or.inr rfl) q
    have hC1 := hC.frN (hF1.mono (fun a j h => Or.inr h))
    have hS1 := hC1.1
    refine bRe_mustBe_20 M1 206 _ _ _ ?_
    have e7' : m_i M1 261 7 = nI r := by rw [hF1.1 _ _ (by omega), e7, r2]
    simp (disch := omega) only [hS1.c, hS1.r_fed, hS1.s_fed, hS1.r_rKind, hS1.s_rKind, hS1.r_kind, hS1.s_kind, hS1.r_rNum, hS1.s_rNum, hS1.r_num, hS1.s_num, hS1.r_rLong, hS1.s_rLong, hS1.r_cLong, hS1.s_cLong, hS1.r_stack, hS1.s_stack, hS1.r_names, hS1.s_names, hS1.r_row, hS1.s_row, hS1.r_ruleOf, hS1.s_ruleOf, hS1.r_ways, hS1.s_ways, hS1.r_cWho, hS1.s_cWho, hS1.r_cMin, hS1.s_cMin, hS1.r_cOff, hS1.s_cOff, hS1.r_cTh, hS1.s_cTh, hS1.r_cEnd, hS1.s_cEnd, hS1.r_hds, hS1.s_hds, hS1.r_ends, hS1.s_ends, hS1.r_there, hS1.s_there, hS1.r_offd, hS1.s_offd, hS1.r_had, hS1.s_had, hS1.r_rPer, hS1.s_rPer, hS1.r_rP, hS1.s_rP, hS1.r_per, hS1.s_per, hS1.r_pr, hS1.s_pr, hS1.r_rCode, hS1.s_rCode, hS1.r_rC, hS1.s_rC, hS1.r_code, hS1.s_code, hS1.r_cd, hS1.s_cd, hS1.r_kept, hS1.s_kept, hS1.r_kp, hS1.s_kp, hS1.r_holder, hS1.s_holder, hS1.r_hd, hS1.s_hd, hS1.r_pass, hS1.s_pass, hS1.r_ps, hS1.s_ps, hS1.r_debt, hS1.s_debt, hS1.r_db, hS1.s_db, hS1.r_endBy, hS1.s_endBy, hS1.r_eb, hS1.s_eb, vpT, vpk0, clk0, vpk1, clk1, vpk2, clk2, vpk3, clk3, vpk4, clk4, vpk5, clk5, vpk6, clk6, vpk7, clk7, vpk8, clk8, vpk9, clk9, nI_clamp, nI_1, true_and, e7']
    refine CallVC.cps0 (by omega) (ct_comes M1 hS1 r r10 _ _ _ _ _ hN1 (by rw [hF1.1 _ _ (by omega)]; exact r5) r6 (fun j hj => by rw [hF1.1 _ _ (by omega), hF1.1 _ _ (by omega)]; exact r7 j hj) (r4.2.2.2.1 (by omega)) (r4.2.2.2.2 (by omega)) (by omega) (fun M2 hF2 => ?_))
    have hk2 := hk M2 ((hF1.mono (fun a j h => Or.inr h)).tr (hF2.mono (fun a j h => Or.inl h)))
    have em : c_mu c g o h = decide (valR (R.getD r ru0) (c_f c) g o h = 1) := by
      rw [hmu]; unfold mustF
      rw [if_neg q, r2, nI_clamp (by omega)]
    rw [em] at hk2
    refine bRe_mustBe_31 M2 206 _ _ _ _ ⟨fun z => ?_, fun z => ?_⟩
    · rw [decide_eq_false (show ¬ valR (R.getD r ru0) (c_f c) g o h = 1 from z)] at hk2
      exact hk2
    · rw [decide_eq_true (show valR (R.getD r ru0) (c_f c) g o h = 1 from z)] at hk2
      exact hk2
  · have hk2 := hk M (FrS.rf _ _)
    rw [show c_mu c g o h = false by rw [hmu]; unfold mustF; rw [if_pos q]] at hk2
    exact hk2
theorem ct_worthOf (M : Mm) (c : Cf) (R : List RU) (out : Nat) (hC : RDc M c R out) (g o h : Nat) (hg : g < c_n c) (ho : o < c_n c) (hd : 1 < d) (hk : ∀ M', FrS QN M M' → Φ (.inl (some (.int (c_wo c g o h)))) M') : Ct l G d mRe_worthOf bc bs [.ref 206, .int (nI g), .int (nI o), .int (nI h)] M Φ := by
  obtain ⟨hS, hP, hR, -, hL, hnu, -, hwo, -⟩ := id hC
  have e7 : m_i M 261 6 = c_nu c 8 := by rw [hL 6 (by omega), hnu 8, ← nuS_ru (w := 6) (Or.inl rfl)]
  have hend : ∀ M' v, FrS QN M M' → c_wo c g o h = heldS v → Ev l G d mRe_worthOf 33 [.ref 206, .int (nI g), .int (nI o), .int (nI h), .null] [.int v] M' bc bs Φ := fun M' v hF e => by
    have hk2 := hk M' hF
    rw [e, held_ref] at hk2
    refine bRe_worthOf_33 M' 206 _ _ _ _ _ ⟨fun q => ⟨fun q2 => ?_, fun q2 => ?_⟩, fun q => ?_⟩
    · rw [if_pos q, if_pos q2] at hk2; exact hk2
    · rw [if_pos q, if_neg q2] at hk2; exact hk2
    · rw [if_neg q] at hk2; exact hk2
  refine Ct.of rfl (Nat.le_of_ble_eq_true rfl) ?_
  refine bRe_worthOf_0 M 206 _ _ _ ⟨hS.c, CallVC.cps0 (by omega) (ct_layNames M hS _ _ hP g o hg ho _ (fun M1 hF1 hN1 => ?_))⟩
  have hC1 := hC.frN (hF1.mono (fun a j h => Or.inr h))
  have hS1 := hC1.1
  refine bRe_worthOf_7 M1 206 _ _ _ _ ?_
  have e7' : m_i M1 261 6 = c_nu c 8 := by rw [hF1.1 _ _ (by omega), e7]
  simp (disch := omega) only [hS1.c, hS1.r_fed, hS1.s_fed, hS1.r_rKind, hS1.s_rKind, hS1.r_kind, hS1.s_kind, hS1.r_rNum, hS1.s_rNum, hS1.r_num, hS1.s_num, hS1.r_rLong, hS1.s_rLong, hS1.r_cLong, hS1.s_cLong, hS1.r_stack, hS1.s_stack, hS1.r_names, hS1.s_names, hS1.r_row, hS1.s_row, hS1.r_ruleOf, hS1.s_ruleOf, hS1.r_ways, hS1.s_ways, hS1.r_cWho, hS1.s_cWho, hS1.r_cMin, hS1.s_cMin, hS1.r_cOff, hS1.s_cOff, hS1.r_cTh, hS1.s_cTh, hS1.r_cEnd, hS1.s_cEnd, hS1.r_hds, hS1.s_hds, hS1.r_ends, hS1.s_ends, hS1.r_there, hS1.s_there, hS1.r_offd, hS1.s_offd, hS1.r_had, hS1.s_had, hS1.r_rPer, hS1.s_rPer, hS1.r_rP, hS1.s_rP, hS1.r_per, hS1.s_per, hS1.r_pr, hS1.s_pr, hS1.r_rCode, hS1.s_rCode, hS1.r_rC, hS1.s_rC, hS1.r_code, hS1.s_code, hS1.r_cd, hS1.s_cd, hS1.r_kept, hS1.s_kept, hS1.r_kp, hS1.s_kp, hS1.r_holder, hS1.s_holder, hS1.r_hd, hS1.s_hd, hS1.r_pass, hS1.s_pass, hS1.r_ps, hS1.s_ps, hS1.r_debt, hS1.s_debt, hS1.r_db, hS1.s_db, hS1.r_endBy, hS1.s_endBy, hS1.r_eb, hS1.s_eb, vpT, vpk0, clk0, vpk1, clk1, vpk2, clk2, vpk3, clk3, vpk4, clk4, vpk5, clk5, vpk6, clk6, vpk7, clk7, vpk8, clk8, vpk9, clk9, nI_clamp, nI_1, true_and, e7']
  refine ⟨fun q => ?_, fun q => hend M1 1 (hF1.mono (fun a j h => Or.inr h)) ?_⟩
  · obtain ⟨r, r1, r10, r2, r3, r4, r5, r6, r7⟩ := hC.ru 6 (Or.inl rfl) q
    rw [r2]
    refine CallVC.cps0 (by omega) (ct_comes M1 hS1 r r10 _ _ _ _ _ hN1 (by rw [hF1.1 _ _ (by omega)]; exact r5) r6 (fun j hj => by rw [hF1.1 _ _ (by omega), hF1.1 _ _ (by omega)]; exact r7 j hj) (r4.2.2.2.1 (by omega)) (r4.2.2.2.2 (by omega)) (by omega) (fun M2 hF2 => ?_))
    refine hend M2 _ ((hF1.mono (fun a j h => Or.inr h)).tr (hF2.mono (fun a j h => Or.inl h))) ?_
    rw [hwo]; unfold worthF
    rw [if_neg q, r2, nI_clamp (by omega)]
    rfl
  · rw [hwo]; unfold worthF
    rw [if_pos q]
    decide
/-- the passes so far, as the reference holds them -/
def RPs (M : Mm) (ps : List PR) : Prop := m_i M 206 41 = nI ps.length ∧ ps.length ≤ 28 ∧ ∀ i, i < ps.length → m_i M (281 + i) 0 = nI (p_g ps i) ∧ m_i M (281 + i) 1 = nI (p_t ps i) ∧ m_i M (281 + i) 2 = p_w ps i ∧ m_i M (281 + i) 3 = p_m ps i
theorem RPs.fr {M M' : Mm} {ps : List PR} {Q : Nat → Nat → Prop} (h : RPs M ps) (hF : FrS Q M M') (h0 : ¬ Q 206 41) (h1 : ∀ p j, p < 64 → ¬ Q (281 + p) j) : RPs M' ps := by
  obtain ⟨a1, a2, a3⟩ := h
  refine ⟨by rw [hF.1 _ _ h0]; exact a1, a2, fun i hi => ?_⟩
  rw [hF.1 _ _ (h1 i _ (by omega)), hF.1 _ _ (h1 i _ (by omega)), hF.1 _ _ (h1 i _ (by omega)), hF.1 _ _ (h1 i _ (by omega))]
  exact a3 i hi
theorem balS_succ (pg pt : Nat → Nat) (pw pm : Nat → Int32) (minute lapse : Int32) (p i : Nat) : balS pg pt pw pm minute lapse p (i + 1) = if lapse = -1 ∨ ¬ lapse < minute - pm i then (if p = pg i then balS pg pt pw pm minute lapse p i + pw i else if p = pt i then balS pg pt pw pm minute lapse p i - pw i else balS pg pt pw pm minute lapse p i) else balS pg pt pw pm minute lapse p i := rfl
theorem ct_balanceOf (M : Mm) (c : Cf) (R : List RU) (out : Nat) (hC : RDc M c R out) (ps : List PR) (hp : RPs M ps) (hix : ∀ i, i < ps.length → p_g ps i < 8 ∧ p_t ps i < 8 ∧ p_g ps i ≠ p_t ps i) (p mm : Nat) (hp8 : p < 8) (hd : 0 < d) (h : Φ (.inl (some (.int (balL ps mm (c_nu c 7) p)))) M) : Ct l G d mRe_balanceOf bc bs [.ref 206, .int (nI p), .int (nI mm)] M Φ := by
  obtain ⟨hS, hP, hR, -, hL, hnu, -⟩ := id hC
  obtain ⟨p1, p2, p3⟩ := hp
  refine Ct.of rfl (Nat.le_of_ble_eq_true rfl) ?_
  refine bRe_balanceOf_0 M 206 _ _ ⟨hS.c, CallVC.cps0 (by omega) ?_⟩
  refine ct_numberOf M hS R hR out hL 5 (by omega) ?_
  rw [← hnu 7]
  refine bRe_balanceOf_6 M 206 _ _ _ _ _ _ ?_
  have loop : ∀ e i, i + e = ps.length → Ev l G d mRe_balanceOf 13 [.ref 206, .int (nI p), .int (nI mm), .int (c_nu c 7), .int (balS (p_g ps) (p_t ps) (p_w ps) (p_m ps) (nI mm) (c_nu c 7) p i), .int (nI i)] [] M bc bs Φ := by
    intro e
    induction e with
    | zero =>
      intro i hi
      obtain rfl : i = ps.length := by omega
      refine bRe_balanceOf_13 M 206 _ _ _ _ _ ⟨hS.c, fun _ => h, fun q => absurd ?_ q⟩
      rw [p1]; exact nI_le (Nat.le_refl _) (by omega)
    | succ e ih =>
      intro i hi
      obtain ⟨e0, e1, e2, e3⟩ := p3 i (by omega)
      obtain ⟨x1, x2, x3⟩ := hix i (by omega)
      have hnext : ∀ v, v = balS (p_g ps) (p_t ps) (p_w ps) (p_m ps) (nI mm) (c_nu c 7) p (i + 1) → Ev l G d mRe_balanceOf 102 [.ref 206, .int (nI p), .int (nI mm), .int (c_nu c 7), .int v, .int (nI i)] [] M bc bs Φ := fun v ev => by
        refine bRe_balanceOf_102 M 206 _ _ _ _ _ ?_
        rw [ev, nI_1]
        exact ih (i + 1) (by omega)
      have h45 : (c_nu c 7 = -1 ∨ ¬ c_nu c 7 < nI mm - p_m ps i) → Ev l G d mRe_balanceOf 45 [.ref 206, .int (nI p), .int (nI mm), .int (c_nu c 7), .int (balS (p_g ps) (p_t ps) (p_w ps) (p_m ps) (nI mm) (c_nu c 7) p i), .int (nI i)] [] M bc bs Φ := fun q => by
        refine bRe_balanceOf_45 M 206 _ _ _ _ _ ?_
        simp (disch := omega) only [hS.c, hS.r_fed, hS.s_fed, hS.r_rKind, hS.s_rKind, hS.r_kind, hS.s_kind, hS.r_rNum, hS.s_rNum, hS.r_num, hS.s_num, hS.r_rLong, hS.s_rLong, hS.r_cLong, hS.s_cLong, hS.r_stack, hS.s_stack, hS.r_names, hS.s_names, hS.r_row, hS.s_row, hS.r_ruleOf, hS.s_ruleOf, hS.r_ways, hS.s_ways, hS.r_cWho, hS.s_cWho, hS.r_cMin, hS.s_cMin, hS.r_cOff, hS.s_cOff, hS.r_cTh, hS.s_cTh, hS.r_cEnd, hS.s_cEnd, hS.r_hds, hS.s_hds, hS.r_ends, hS.s_ends, hS.r_there, hS.s_there, hS.r_offd, hS.s_offd, hS.r_had, hS.s_had, hS.r_rPer, hS.s_rPer, hS.r_rP, hS.s_rP, hS.r_per, hS.s_per, hS.r_pr, hS.s_pr, hS.r_rCode, hS.s_rCode, hS.r_rC, hS.s_rC, hS.r_code, hS.s_code, hS.r_cd, hS.s_cd, hS.r_kept, hS.s_kept, hS.r_kp, hS.s_kp, hS.r_holder, hS.s_holder, hS.r_hd, hS.s_hd, hS.r_pass, hS.s_pass, hS.r_ps, hS.s_ps, hS.r_debt, hS.s_debt, hS.r_db, hS.s_db, hS.r_endBy, hS.s_endBy, hS.r_eb, hS.s_eb, vpT, vpk0, clk0, vpk1, clk1, vpk2, clk2, vpk3, clk3, vpk4, clk4, vpk5, clk5, vpk6, clk6, vpk7, clk7, vpk8, clk8, vpk9, clk9, nI_clamp, nI_1, true_and, e0, e1, e2, nI_eq]
        refine ⟨fun q1 => ⟨fun q2 => hnext _ ?_, fun q2 => hnext _ ?_⟩, fun q1 => hnext _ ?_⟩
        · rw [balS_succ, if_pos q, if_neg (fun z => q1 z.symm), if_neg (fun z => q2 z.symm), Int32.add_zero]
        · rw [balS_succ, if_pos q, if_neg (fun z => q1 z.symm), if_pos q2.symm, Int32.sub_eq_add_neg]
        · rw [balS_succ, if_pos q, if_pos q1.symm]
      refine bRe_balanceOf_13 M 206 _ _ _ _ _ ?_
      simp (disch := omega) only [hS.c, hS.r_fed, hS.s_fed, hS.r_rKind, hS.s_rKind, hS.r_kind, hS.s_kind, hS.r_rNum, hS.s_rNum, hS.r_num, hS.s_num, hS.r_rLong, hS.s_rLong, hS.r_cLong, hS.s_cLong, hS.r_stack, hS.s_stack, hS.r_names, hS.s_names, hS.r_row, hS.s_row, hS.r_ruleOf, hS.s_ruleOf, hS.r_ways, hS.s_ways, hS.r_cWho, hS.s_cWho, hS.r_cMin, hS.s_cMin, hS.r_cOff, hS.s_cOff, hS.r_cTh, hS.s_cTh, hS.r_cEnd, hS.s_cEnd, hS.r_hds, hS.s_hds, hS.r_ends, hS.s_ends, hS.r_there, hS.s_there, hS.r_offd, hS.s_offd, hS.r_had, hS.s_had, hS.r_rPer, hS.s_rPer, hS.r_rP, hS.s_rP, hS.r_per, hS.s_per, hS.r_pr, hS.s_pr, hS.r_rCode, hS.s_rCode, hS.r_rC, hS.s_rC, hS.r_code, hS.s_code, hS.r_cd, hS.s_cd, hS.r_kept, hS.s_kept, hS.r_kp, hS.s_kp, hS.r_holder, hS.s_holder, hS.r_hd, hS.s_hd, hS.r_pass, hS.s_pass, hS.r_ps, hS.s_ps, hS.r_debt, hS.s_debt, hS.r_db, hS.s_db, hS.r_endBy, hS.s_endBy, hS.r_eb, hS.s_eb, vpT, vpk0, clk0, vpk1, clk1, vpk2, clk2, vpk3, clk3, vpk4, clk4, vpk5, clk5, vpk6, clk6, vpk7, clk7, vpk8, clk8, vpk9, clk9, nI_clamp, nI_1, true_and, p1, e3]
      refine ⟨fun q => absurd q (nI_not_le (by omega) (by omega)), fun _ => ⟨fun q => h45 (Or.inl q), fun q => ⟨fun q2 => h45 (Or.inr (Int32.not_lt.mpr q2)), fun q2 => hnext _ ?_⟩⟩⟩
      show _ = (if c_nu c 7 = -1 ∨ ¬ c_nu c 7 < nI mm - p_m ps i then _ else _)
      rw [if_neg (fun z => z.elim q (fun z => q2 (Int32.not_lt.mp z)))]
  exact loop ps.length 0 (by omega)
end SR2
