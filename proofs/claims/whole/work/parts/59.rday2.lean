/-! ===== the reference's DAY: offers, handing along ===== -/
theorem mod_ref {i n : Nat} (hi : i < 8) (h1 : 1 ≤ n) (h8 : n ≤ 8) : nI (i + 1) - nI (i + 1) / nI n * nI n = nI ((i + 1) % n) := by
  have h : ∀ i, i < 8 → ∀ n, n < 9 → 1 ≤ n → nI (i + 1) - nI (i + 1) / nI n * nI n = nI ((i + 1) % n) := by decide +kernel
  exact h i hi n (by omega) h1
theorem oN_eq {o : Option Nat} {p : Nat} (hp : p < 2 ^ 31) (ho : ∀ q, o = some q → q < 2 ^ 31) : nI p = oN o ↔ o = some p := by
  cases o with
  | none => exact ⟨fun e => absurd e (nI_neg hp), fun e => by cases e⟩
  | some q =>
    have := ho q rfl
    show nI p = nI q ↔ _
    rw [nI_eq hp this, Option.some_inj]
    exact eq_comm
def QO : Nat → Nat → Prop := fun a j => QN a j ∨ (a = 206 ∧ j = 36)
theorem QO.d : ∀ a j, QO a j → QD a j := fun a j h => by unfold QO QN at h; unfold QD; omega
section SR4
variable {l : Launch} {G : Gx} {d : Nat} {bc bs : Nat} {Φ : OutV → Mm → Prop}
theorem ct_offers (M : Mm) (c : Cf) (hc : cfOK c) (R : List RU) (out : Nat) (hC : RDc M c R out) (ps : List PR) (hp : RPs M ps) (hix : ∀ i, i < ps.length → p_g ps i < 8 ∧ p_t ps i < 8 ∧ p_g ps i ≠ p_t ps i) (k p q mm u : Nat) (hpn : p < c_n c) (hq : q < c_n c) (hm : mm < 1000) (hu : m_i M 206 36 = nI u) (hu2 : u < 2 ^ 30) (hd : 2 < d)
    (h : ∀ M', FrS QO M M' → m_i M' 206 36 = nI (offS c k (balL ps mm (c_nu c 7)) (mm / 60) p q u).2 → Φ (.inl (some (.int (if (offS c k (balL ps mm (c_nu c 7)) (mm / 60) p q u).1 = true then 1 else 0)))) M') : Ct l G d mRe_offers bc bs [.ref 206, .int (nI k), .int (nI p), .int (nI q), .int (nI mm)] M Φ := by
  have n8 := hc.1
  have hS := hC.1
  generalize hB : balL ps mm (c_nu c 7) = B at h
  refine Ct.of rfl (Nat.le_of_ble_eq_true rfl) ?_
  refine bRe_offers_0 M 206 _ _ _ _ ⟨hS.c, CallVC.cps0 (by omega) ?_⟩
  rw [nI_60 hm]
  refine ct_mustBe M c R out hC p q (mm / 60) hpn hq (by omega) (fun M1 hF1 => ?_)
  have hC1 := hC.frN hF1
  obtain ⟨hS1, hP1, -, -, -, -, -, -, c34, c35, c37, c38, cw⟩ := id hC1
  have hp1 : RPs M1 ps := hp.fr hF1 (by unfold QN; omega) (fun p j hp => by unfold QN; omega)
  have hu1 : m_i M1 206 36 = nI u := by rw [hF1.1 _ _ (by unfold QN; omega)]; exact hu
  have hF1' : FrS QO M M1 := hF1.mono (fun a j h => Or.inl h)
  by_cases hmu : c_mu c p q (mm / 60) = true
  · rw [if_pos hmu]
    have hk := h M1 hF1' (by unfold offS; rw [if_pos hmu]; exact hu1)
    unfold offS at hk
    rw [if_pos hmu] at hk
    refine bRe_offers_11 M1 206 _ _ _ _ _ ⟨fun z => absurd z (by decide), fun _ => hk⟩
  rw [if_neg hmu]
  have hk : c_pl c ≠ some p → ∀ b : Bool, wayOff c k B p q = b → Φ (.inl (some (.int (if b = true then 1 else 0)))) M1 := fun hpl b hb => by
    have hk := h M1 hF1' (by unfold offS; rw [if_neg hmu, if_neg hpl]; exact hu1)
    unfold offS at hk
    rw [if_neg hmu, if_neg hpl, hb] at hk
    exact hk
  have e7 : m_i M1 (218 + p) 7 = c_f c p 7 := hP1.2.2 p 7 hpn (by omega)
  have e6 : m_i M1 (218 + p) 6 = c_f c p 6 := hP1.2.2 p 6 hpn (by omega)
  have e1 : m_i M1 (218 + p) 1 = c_f c p 1 := hP1.2.2 p 1 hpn (by omega)
  have e1q : m_i M1 (218 + q) 1 = c_f c q 1 := hP1.2.2 q 1 hq (by omega)
  have hwl := wy_le hc k hpn
  have hbal : c_pl c ≠ some p → wyAt c k p = 2 → CallVC l G d mRe_offers 156 [.ref 206, .int (nI k), .int (nI p), .int (nI q), .int (nI mm)] [] mRe_balanceOf [.ref 206, .int (nI p), .int (nI mm)] M1 bc bs Φ := fun hpl w2 => by
    refine CallVC.cps0 (by omega) (ct_balanceOf M1 c R out hC1 ps hp1 hix p mm (by omega) (by omega) ?_)
    rw [hB]
    refine bRe_offers_156 M1 206 _ _ _ _ _ ?_
    simp (disch := omega) only [hS1.c, hS1.r_fed, hS1.s_fed, hS1.r_rKind, hS1.s_rKind, hS1.r_kind, hS1.s_kind, hS1.r_rNum, hS1.s_rNum, hS1.r_num, hS1.s_num, hS1.r_rLong, hS1.s_rLong, hS1.r_cLong, hS1.s_cLong, hS1.r_stack, hS1.s_stack, hS1.r_names, hS1.s_names, hS1.r_row, hS1.s_row, hS1.r_ruleOf, hS1.s_ruleOf, hS1.r_ways, hS1.s_ways, hS1.r_cWho, hS1.s_cWho, hS1.r_cMin, hS1.s_cMin, hS1.r_cOff, hS1.s_cOff, hS1.r_cTh, hS1.s_cTh, hS1.r_cEnd, hS1.s_cEnd, hS1.r_hds, hS1.s_hds, hS1.r_ends, hS1.s_ends, hS1.r_there, hS1.s_there, hS1.r_offd, hS1.s_offd, hS1.r_had, hS1.s_had, hS1.r_rPer, hS1.s_rPer, hS1.r_rP, hS1.s_rP, hS1.r_per, hS1.s_per, hS1.r_pr, hS1.s_pr, hS1.r_rCode, hS1.s_rCode, hS1.r_rC, hS1.s_rC, hS1.r_code, hS1.s_code, hS1.r_cd, hS1.s_cd, hS1.r_kept, hS1.s_kept, hS1.r_kp, hS1.s_kp, hS1.r_holder, hS1.s_holder, hS1.r_hd, hS1.s_hd, hS1.r_pass, hS1.s_pass, hS1.r_ps, hS1.s_ps, hS1.r_debt, hS1.s_debt, hS1.r_db, hS1.s_db, hS1.r_endBy, hS1.s_endBy, hS1.r_eb, hS1.s_eb, vpT, vpk0, clk0, vpk1, clk1, vpk2, clk2, vpk3, clk3, vpk4, clk4, vpk5, clk5, vpk6, clk6, vpk7, clk7, vpk8, clk8, vpk9, clk9, nI_clamp, nI_1, true_and, e6]
    refine ⟨fun z => hk hpl false ?_, fun z => hk hpl true ?_⟩
    · have : ¬ B p < c_f c p 6 := Int32.not_lt.mpr z
      simp [wayOff, w2, this]
    · have : B p < c_f c p 6 := Int32.not_le.mp z
      simp [wayOff, w2, this]
  have key : c_pl c ≠ some p → ∀ wv : Int32, wv = nI (wyAt c k p) →
      (wv = 0 → Φ (.inl (some (.int 0))) M1) ∧
      (wv = 1 → (¬ ((c_f c p 7 >>> (nI q &&& 31)) &&& 1) = 1 → Φ (.inl (some (.int 0))) M1) ∧ (((c_f c p 7 >>> (nI q &&& 31)) &&& 1) = 1 → Φ (.inl (some (.int 1))) M1)) ∧
      (wv = 2 → CallVC l G d mRe_offers 156 [.ref 206, .int (nI k), .int (nI p), .int (nI q), .int (nI mm)] [] mRe_balanceOf [.ref 206, .int (nI p), .int (nI mm)] M1 bc bs Φ) ∧
      (wv = 3 → (c_f c q 1 ≤ c_f c p 1 → Φ (.inl (some (.int 0))) M1) ∧ (¬ c_f c q 1 ≤ c_f c p 1 → Φ (.inl (some (.int 1))) M1)) ∧
      (¬ wv = 0 → ¬ wv = 1 → ¬ wv = 2 → ¬ wv = 3 → Φ (.inl (some (.int 1))) M1) := by
    intro hpl wv ew
    have hh := hk hpl
    refine ⟨fun z => ?_, fun z => ?_, fun z => ?_, fun z => ?_, fun z0 z1 z2 z3 => ?_⟩
    · have w0 : wyAt c k p = 0 := (nI_eq (by omega) (by omega)).mp (ew.symm.trans z)
      exact hh false (by simp [wayOff, w0])
    · have w0 : wyAt c k p = 1 := (nI_eq (by omega) (by omega)).mp (ew.symm.trans z)
      exact ⟨fun y => hh false (by simp [wayOff, w0, y]), fun y => hh true (by simp [wayOff, w0, y])⟩
    · have w0 : wyAt c k p = 2 := (nI_eq (by omega) (by omega)).mp (ew.symm.trans z)
      exact hbal hpl w0
    · have w0 : wyAt c k p = 3 := (nI_eq (by omega) (by omega)).mp (ew.symm.trans z)
      refine ⟨fun y => hh false ?_, fun y => hh true ?_⟩
      · have : ¬ c_f c p 1 < c_f c q 1 := Int32.not_lt.mpr y
        simp [wayOff, w0, this]
      · have : c_f c p 1 < c_f c q 1 := Int32.not_le.mp y
        simp [wayOff, w0, this]
    · have y0 : ∀ x, ¬ wv = nI x → wyAt c k p ≠ x := fun x hx e => hx (by rw [ew, e])
      have a0 := y0 0 z0
      have a1 := y0 1 z1
      have a2 := y0 2 z2
      have a3 := y0 3 z3
      have a4 : wyAt c k p = 4 := by omega
      exact hh true (by simp [wayOff, a4])
  have h89 : c_pl c ≠ some p → ¬ (c_tu c = some p ∧ c_tc c ≤ nI k) → Ev l G d mRe_offers 89 [.ref 206, .int (nI k), .int (nI p), .int (nI q), .int (nI mm)] [] M1 bc bs Φ := fun hpl htu => by
    have ew : m_i M1 262 p = nI (wyAt c k p) := by rw [cw p hpn]; unfold wyAt; rw [if_neg htu]
    refine bRe_offers_89 M1 206 _ _ _ _ ?_
    simp (disch := omega) only [hS1.c, hS1.r_fed, hS1.s_fed, hS1.r_rKind, hS1.s_rKind, hS1.r_kind, hS1.s_kind, hS1.r_rNum, hS1.s_rNum, hS1.r_num, hS1.s_num, hS1.r_rLong, hS1.s_rLong, hS1.r_cLong, hS1.s_cLong, hS1.r_stack, hS1.s_stack, hS1.r_names, hS1.s_names, hS1.r_row, hS1.s_row, hS1.r_ruleOf, hS1.s_ruleOf, hS1.r_ways, hS1.s_ways, hS1.r_cWho, hS1.s_cWho, hS1.r_cMin, hS1.s_cMin, hS1.r_cOff, hS1.s_cOff, hS1.r_cTh, hS1.s_cTh, hS1.r_cEnd, hS1.s_cEnd, hS1.r_hds, hS1.s_hds, hS1.r_ends, hS1.s_ends, hS1.r_there, hS1.s_there, hS1.r_offd, hS1.s_offd, hS1.r_had, hS1.s_had, hS1.r_rPer, hS1.s_rPer, hS1.r_rP, hS1.s_rP, hS1.r_per, hS1.s_per, hS1.r_pr, hS1.s_pr, hS1.r_rCode, hS1.s_rCode, hS1.r_rC, hS1.s_rC, hS1.r_code, hS1.s_code, hS1.r_cd, hS1.s_cd, hS1.r_kept, hS1.s_kept, hS1.r_kp, hS1.s_kp, hS1.r_holder, hS1.s_holder, hS1.r_hd, hS1.s_hd, hS1.r_pass, hS1.s_pass, hS1.r_ps, hS1.s_ps, hS1.r_debt, hS1.s_debt, hS1.r_db, hS1.s_db, hS1.r_endBy, hS1.s_endBy, hS1.r_eb, hS1.s_eb, vpT, vpk0, clk0, vpk1, clk1, vpk2, clk2, vpk3, clk3, vpk4, clk4, vpk5, clk5, vpk6, clk6, vpk7, clk7, vpk8, clk8, vpk9, clk9, nI_clamp, nI_1, true_and, e7, e1, e1q]
    exact key hpl _ ew
  refine bRe_offers_11 M1 206 _ _ _ _ _ ⟨fun _ => ⟨hS1.c, ?_⟩, fun z => absurd rfl z⟩
  have e34 := oN_eq (o := c_pl c) (p := p) (by omega) (fun q hq => by have := hc.2.2.2.2.2.2.2.1 q hq; omega)
  have e37 := oN_eq (o := c_tu c) (p := p) (by omega) (fun q hq => by have := (hc.2.2.2.2.2.2.2.2.1 q hq).1; omega)
  rw [c34, c37, e34, e37, hu1, nI_1]
  refine ⟨fun z1 => ⟨fun z2 => h89 z1 (fun y => z2 y.1), fun z2 => ?_⟩, fun z1 => ?_⟩
  · obtain ⟨d1, d2⟩ := c38 p z2
    rw [d1]
    refine ⟨fun z3 => h89 z1 (fun y => absurd y.2 (Int32.not_le.mpr z3)), fun z3 => ?_⟩
    have ew : m_i M1 206 39 = nI (wyAt c k p) := by rw [d2]; unfold wyAt; rw [if_pos ⟨z2, Int32.not_lt.mp z3⟩]
    simp (disch := omega) only [hS1.c, hS1.r_fed, hS1.s_fed, hS1.r_rKind, hS1.s_rKind, hS1.r_kind, hS1.s_kind, hS1.r_rNum, hS1.s_rNum, hS1.r_num, hS1.s_num, hS1.r_rLong, hS1.s_rLong, hS1.r_cLong, hS1.s_cLong, hS1.r_stack, hS1.s_stack, hS1.r_names, hS1.s_names, hS1.r_row, hS1.s_row, hS1.r_ruleOf, hS1.s_ruleOf, hS1.r_ways, hS1.s_ways, hS1.r_cWho, hS1.s_cWho, hS1.r_cMin, hS1.s_cMin, hS1.r_cOff, hS1.s_cOff, hS1.r_cTh, hS1.s_cTh, hS1.r_cEnd, hS1.s_cEnd, hS1.r_hds, hS1.s_hds, hS1.r_ends, hS1.s_ends, hS1.r_there, hS1.s_there, hS1.r_offd, hS1.s_offd, hS1.r_had, hS1.s_had, hS1.r_rPer, hS1.s_rPer, hS1.r_rP, hS1.s_rP, hS1.r_per, hS1.s_per, hS1.r_pr, hS1.s_pr, hS1.r_rCode, hS1.s_rCode, hS1.r_rC, hS1.s_rC, hS1.r_code, hS1.s_code, hS1.r_cd, hS1.s_cd, hS1.r_kept, hS1.s_kept, hS1.r_kp, hS1.s_kp, hS1.r_holder, hS1.s_holder, hS1.r_hd, hS1.s_hd, hS1.r_pass, hS1.s_pass, hS1.r_ps, hS1.s_ps, hS1.r_debt, hS1.s_debt, hS1.r_db, hS1.s_db, hS1.r_endBy, hS1.s_endBy, hS1.r_eb, hS1.s_eb, vpT, vpk0, clk0, vpk1, clk1, vpk2, clk2, vpk3, clk3, vpk4, clk4, vpk5, clk5, vpk6, clk6, vpk7, clk7, vpk8, clk8, vpk9, clk9, nI_clamp, nI_1, true_and, e7, e1, e1q]
    exact key z1 _ ew
  · have hk : ∀ b : Bool, planOff c u = b → Φ (.inl (some (.int (if b = true then 1 else 0)))) (m_si M1 206 36 (nI (u + 1))) := fun b hb => by
      have hk := h (m_si M1 206 36 (nI (u + 1))) (hF1'.tr (FrS.si (Or.inr ⟨rfl, rfl⟩) _)) (by unfold offS; rw [if_neg hmu, if_pos z1, m_i_si, if_pos ⟨rfl, rfl⟩])
      unfold offS at hk
      rw [if_neg hmu, if_pos z1, hb] at hk
      exact hk
    have a1 : m_i (m_si M1 206 36 (nI (u + 1))) 206 36 = nI (u + 1) := by rw [m_i_si, if_pos ⟨rfl, rfl⟩]
    have a2 : m_i (m_si M1 206 36 (nI (u + 1))) 206 35 = c_pb c := by rw [m_i_si, if_neg (by omega)]; exact c35 p z1
    have a3 : (10 : Int32) < nI (u + 1) ↔ 10 < u + 1 := nI_ltI (a := 10) (by omega) (by omega)
    rw [a1, a2, a3, nI_pred]
    refine ⟨fun z2 => hk false (decide_eq_false (by omega)), fun z2 => ⟨fun z3 => hk false (decide_eq_false (fun y => z3 y.2)), fun z3 => hk true (decide_eq_true ⟨by omega, z3⟩)⟩⟩
/-- so often the j-th in the row has offered when the t-th holder is asked -/
def ocN (n t j : Nat) : Nat := t / n + (if j < t % n then 1 else 0)
theorem ocN_step {n t j : Nat} (hn : 1 ≤ n) (hj : j < n) : ocN n (t + 1) j = ocN n t j + (if j = t % n then 1 else 0) := by
  unfold ocN
  have h1 := Nat.div_add_mod t n
  have h2 := Nat.mod_lt t (show 0 < n by omega)
  by_cases z : t % n + 1 < n
  · have e : t + 1 = n * (t / n) + (t % n + 1) := by omega
    have e1 : (t + 1) / n = t / n := by rw [e, Nat.mul_add_div (by omega), Nat.div_eq_of_lt z, Nat.add_zero]
    have e2 : (t + 1) % n = t % n + 1 := by rw [e, Nat.mul_add_mod, Nat.mod_eq_of_lt z]
    rw [e1, e2]
    split <;> split <;> split <;> omega
  · have e : t + 1 = n * (t / n + 1) := by rw [Nat.mul_add]; omega
    have e1 : (t + 1) / n = t / n + 1 := by rw [e, Nat.mul_div_cancel_left _ (by omega)]
    have e2 : (t + 1) % n = 0 := by rw [e, Nat.mul_mod_right]
    rw [e1, e2, if_neg (Nat.not_lt_zero j)]
    split <;> split <;> omega
theorem mod_step {n t : Nat} (hn : 1 ≤ n) : (t % n + 1) % n = (t + 1) % n := by
  rw [Nat.add_mod t 1 n, Nat.add_mod (t % n) 1 n, Nat.mod_mod]
def QA (k : Nat) : Nat → Nat → Prop := fun a j => QO a j ∨ ((a = 268 ∨ a = 265) ∧ j = k) ∨ a = 271 + k ∨ a = 346 ∨ a = 347
/-- the holders of the k-th CALL, up to the t-th -/
def HDr (M : Mm) (k : Nat) (L : List Nat) (t : Nat) : Prop := m_i M 268 k = nI t ∧ ∀ j, j < t → m_i M (271 + k) j = nI (L.getD (j % L.length) 0)
def askP (M : Mm) (k : Nat) (L : List Nat) (o : Option Nat × Nat) : Prop := m_i M 206 36 = nI o.2 ∧ match o.1 with
  | some t => HDr M k L (t + 1) ∧ m_i M 265 k = nI t ∧ ∀ j, j < L.length → m_i M 346 j = nI (ocN L.length t j)
  | none => HDr M k L (L.length + 1) ∧ m_i M 265 k = nI L.length
def askA (L : List Nat) (o : Option Nat × Nat) : Int32 := match o.1 with
  | some t => nI (t % L.length)
  | none => -1
theorem ct_askedAt (M : Mm) (c : Cf) (hc : cfOK c) (R : List RU) (out : Nat) (hC : RDc M c R out) (ps : List PR) (hp : RPs M ps) (hix : ∀ i, i < ps.length → p_g ps i < 8 ∧ p_t ps i < 8 ∧ p_g ps i ≠ p_t ps i) (k : Nat) (hk : k < 8) (L : List Nat) (hL : LOK c L) (hT : THr M L) (mm u : Nat) (hm : mm < 1000) (hu : m_i M 206 36 = nI u) (hu2 : u < 2 ^ 20) (hh0 : m_i M 268 k = 0) (hc0 : m_i M 265 k = 0) (ho0 : ∀ j, j < L.length → m_i M 346 j = 0) (ha0 : ∀ j, j < L.length → m_i M 347 j = 0) (hd : 3 < d)
    (h : ∀ M', FrS (QA k) M M' → askP M' k L (handS (offT c k (balL ps mm (c_nu c 7)) L mm) (fuelS c L) 0 u) → Φ (.inl (some (.int (askA L (handS (offT c k (balL ps mm (c_nu c 7)) L mm) (fuelS c L) 0 u))))) M') : Ct l G d mRe_askedAt bc bs [.ref 206, .int (nI k), .int (nI mm)] M Φ := by
  have n8 := hc.1
  obtain ⟨l1, l8, lp, -⟩ := id hL
  obtain ⟨hS, hP, hR, -, hLr, hnu, -⟩ := id hC
  generalize hO : handS (offT c k (balL ps mm (c_nu c 7)) L mm) (fuelS c L) 0 u = O at h
  refine Ct.of rfl (Nat.le_of_ble_eq_true rfl) ?_
  refine bRe_askedAt_0 M 206 _ _ ⟨hS.c, CallVC.cps0 (by omega) ?_⟩
  refine ct_numberOf M hS R hR out hLr 1 (by omega) ?_
  rw [← hnu 3]
  refine bRe_askedAt_8 M 206 _ _ _ _ _ _ _ _ ⟨hS.c, CallVC.cps0 (by omega) ?_⟩
  refine ct_numberOf M hS R hR out hLr 2 (by omega) ?_
  rw [← hnu 4]
  refine bRe_askedAt_16 M 206 _ _ _ _ _ _ _ _ ?_
  have h80 : fuelS c L ≤ 80 := by
    unfold fuelS
    rcases hc.2.2.2.2.2.2.1 with q3 | ⟨τ, h1, h9, eτ⟩
    · rw [if_pos q3]; omega
    · rw [eτ, if_neg (nI_neg (by omega)), nI_clamp (by omega)]
      have : (τ + 1) * L.length ≤ 10 * 8 := Nat.mul_le_mul (by omega) l8
      omega
  have loop : ∀ e t v (w6 w7 : Value) M', t + e = fuelS c L → (∀ τ, 1 ≤ τ → τ ≤ 9 → c_nu c 3 = nI τ → t ≤ τ * L.length) → FrS (QA k) M M' → HDr M' k L t → m_i M' 265 k = nI t → (∀ j, j < L.length → m_i M' 346 j = nI (ocN L.length t j)) → (∀ j, j < L.length → m_i M' 347 j = nI (ocN L.length t j)) → m_i M' 206 36 = nI v → v ≤ u + t → handS (offT c k (balL ps mm (c_nu c 7)) L mm) e t v = O →
      Ev l G d mRe_askedAt 18 [.ref 206, .int (nI k), .int (nI mm), .int (nI (t % L.length)), .int (c_nu c 3), .int (c_nu c 4), w6, w7] [] M' bc bs Φ := by
    intro e
    induction e with
    | zero =>
      intro t v w6 w7 M' ht hτ hF hH hcf hof hha hv hv2 hO2
      have hS' := hS.fr hF
      have q3 : c_nu c 3 = -1 := by
        rcases hc.2.2.2.2.2.2.1 with q3 | ⟨τ, h1, h9, eτ⟩
        · exact q3
        · have := hτ τ h1 h9 eτ
          unfold fuelS at ht
          rw [eτ, if_neg (nI_neg (by omega)), nI_clamp (by omega), Nat.succ_mul] at ht
          omega
      have et : t = L.length := by unfold fuelS at ht; rw [if_pos q3] at ht; omega
      subst et
      have e0 : L.length % L.length = 0 := Nat.mod_self _
      rw [e0]
      have eT : m_i M' 345 0 = nI (L.getD 0 0) := by rw [hF.1 _ _ (by unfold QA QO QN; omega)]; exact hT.2 0 (by omega)
      have eh := hH.1
      have ea := hha 0 (by omega)
      have eo1 : ocN L.length L.length 0 = 1 := by unfold ocN; rw [e0, Nat.div_self (by omega)]; rfl
      rw [eo1] at ea
      refine bRe_askedAt_18 M' 206 _ _ _ _ _ _ _ ?_
      simp (disch := omega) only [hS'.c, hS'.r_fed, hS'.s_fed, hS'.r_rKind, hS'.s_rKind, hS'.r_kind, hS'.s_kind, hS'.r_rNum, hS'.s_rNum, hS'.r_num, hS'.s_num, hS'.r_rLong, hS'.s_rLong, hS'.r_cLong, hS'.s_cLong, hS'.r_stack, hS'.s_stack, hS'.r_names, hS'.s_names, hS'.r_row, hS'.s_row, hS'.r_ruleOf, hS'.s_ruleOf, hS'.r_ways, hS'.s_ways, hS'.r_cWho, hS'.s_cWho, hS'.r_cMin, hS'.s_cMin, hS'.r_cOff, hS'.s_cOff, hS'.r_cTh, hS'.s_cTh, hS'.r_cEnd, hS'.s_cEnd, hS'.r_hds, hS'.s_hds, hS'.r_ends, hS'.s_ends, hS'.r_there, hS'.s_there, hS'.r_offd, hS'.s_offd, hS'.r_had, hS'.s_had, hS'.r_rPer, hS'.s_rPer, hS'.r_rP, hS'.s_rP, hS'.r_per, hS'.s_per, hS'.r_pr, hS'.s_pr, hS'.r_rCode, hS'.s_rCode, hS'.r_rC, hS'.s_rC, hS'.r_code, hS'.s_code, hS'.r_cd, hS'.s_cd, hS'.r_kept, hS'.s_kept, hS'.r_kp, hS'.s_kp, hS'.r_holder, hS'.s_holder, hS'.r_hd, hS'.s_hd, hS'.r_pass, hS'.s_pass, hS'.r_ps, hS'.s_ps, hS'.r_debt, hS'.s_debt, hS'.r_db, hS'.s_db, hS'.r_endBy, hS'.s_endBy, hS'.r_eb, hS'.s_eb, vpT, vpk0, clk0, vpk1, clk1, vpk2, clk2, vpk3, clk3, vpk4, clk4, vpk5, clk5, vpk6, clk6, vpk7, clk7, vpk8, clk8, vpk9, clk9, nI_clamp, nI_1, true_and, eT, eh]
      rw [m_i_si, if_neg (by omega), eh, nI_1]
      have a1 : m_i (m_si (m_si M' (271 + k) L.length (nI (L.getD 0 0))) 268 k (nI (L.length + 1))) 347 0 = nI 1 := by rw [m_i_si, if_neg (by omega), m_i_si, if_neg (by omega)]; exact ea
      refine bRe_askedAt_47 _ 206 _ _ _ _ _ _ _ ?_
      simp only [m_sh_si, m_r_si]
      simp (disch := omega) only [hS'.c, hS'.r_fed, hS'.s_fed, hS'.r_rKind, hS'.s_rKind, hS'.r_kind, hS'.s_kind, hS'.r_rNum, hS'.s_rNum, hS'.r_num, hS'.s_num, hS'.r_rLong, hS'.s_rLong, hS'.r_cLong, hS'.s_cLong, hS'.r_stack, hS'.s_stack, hS'.r_names, hS'.s_names, hS'.r_row, hS'.s_row, hS'.r_ruleOf, hS'.s_ruleOf, hS'.r_ways, hS'.s_ways, hS'.r_cWho, hS'.s_cWho, hS'.r_cMin, hS'.s_cMin, hS'.r_cOff, hS'.s_cOff, hS'.r_cTh, hS'.s_cTh, hS'.r_cEnd, hS'.s_cEnd, hS'.r_hds, hS'.s_hds, hS'.r_ends, hS'.s_ends, hS'.r_there, hS'.s_there, hS'.r_offd, hS'.s_offd, hS'.r_had, hS'.s_had, hS'.r_rPer, hS'.s_rPer, hS'.r_rP, hS'.s_rP, hS'.r_per, hS'.s_per, hS'.r_pr, hS'.s_pr, hS'.r_rCode, hS'.s_rCode, hS'.r_rC, hS'.s_rC, hS'.r_code, hS'.s_code, hS'.r_cd, hS'.s_cd, hS'.r_kept, hS'.s_kept, hS'.r_kp, hS'.s_kp, hS'.r_holder, hS'.s_holder, hS'.r_hd, hS'.s_hd, hS'.r_pass, hS'.s_pass, hS'.r_ps, hS'.s_ps, hS'.r_debt, hS'.s_debt, hS'.r_db, hS'.s_db, hS'.r_endBy, hS'.s_endBy, hS'.r_eb, hS'.s_eb, vpT, vpk0, clk0, vpk1, clk1, vpk2, clk2, vpk3, clk3, vpk4, clk4, vpk5, clk5, vpk6, clk6, vpk7, clk7, vpk8, clk8, vpk9, clk9, nI_clamp, nI_1, true_and, a1]
      refine ⟨fun z => absurd z (by decide), fun _ => ⟨fun z => absurd q3 z, fun _ => ?_⟩⟩
      subst hO2
      refine h _ ((hF.tr (FrS.si (Or.inr (Or.inr (Or.inl rfl))) _)).tr (FrS.si (Or.inr (Or.inl ⟨Or.inl rfl, rfl⟩)) _)) ⟨?_, ⟨?_, fun j hj => ?_⟩, ?_⟩
      · rw [m_i_si, if_neg (by omega), m_i_si, if_neg (by omega)]; exact hv
      · rw [m_i_si, if_pos ⟨rfl, rfl⟩]
      · rw [m_i_si, if_neg (by omega), m_i_si]
        by_cases z : j = L.length
        · rw [if_pos ⟨rfl, z⟩, z, e0]
        · rw [if_neg (fun y => z y.2)]; exact hH.2 j (by omega)
      · rw [m_i_si, if_neg (by omega), m_i_si, if_neg (by omega)]; exact hcf
    | succ e ih =>
      intro t v w6 w7 M' ht hτ hF hH hcf hof hha hv hv2 hO2
      have hS' := hS.fr hF
      have hi : t % L.length < L.length := Nat.mod_lt _ (by omega)
      generalize hti : t % L.length = i at *
      have eT : m_i M' 345 i = nI (L.getD i 0) := by rw [hF.1 _ _ (by unfold QA QO QN; omega)]; exact hT.2 i hi
      have e57 : m_i M' 206 57 = nI L.length := by rw [hF.1 _ _ (by unfold QA QO QN; omega)]; exact hT.1
      have eh := hH.1
      have ea := hha i hi
      have eo := hof i hi
      have oc : ocN L.length t i = t / L.length := by unfold ocN; rw [hti, if_neg (Nat.lt_irrefl i), Nat.add_zero]
      rw [oc] at ea eo
      have hr : t / L.length ≤ 80 := Nat.le_trans (Nat.div_le_self _ _) (by omega)
      refine bRe_askedAt_18 M' 206 _ _ _ _ _ _ _ ?_
      simp (disch := omega) only [hS'.c, hS'.r_fed, hS'.s_fed, hS'.r_rKind, hS'.s_rKind, hS'.r_kind, hS'.s_kind, hS'.r_rNum, hS'.s_rNum, hS'.r_num, hS'.s_num, hS'.r_rLong, hS'.s_rLong, hS'.r_cLong, hS'.s_cLong, hS'.r_stack, hS'.s_stack, hS'.r_names, hS'.s_names, hS'.r_row, hS'.s_row, hS'.r_ruleOf, hS'.s_ruleOf, hS'.r_ways, hS'.s_ways, hS'.r_cWho, hS'.s_cWho, hS'.r_cMin, hS'.s_cMin, hS'.r_cOff, hS'.s_cOff, hS'.r_cTh, hS'.s_cTh, hS'.r_cEnd, hS'.s_cEnd, hS'.r_hds, hS'.s_hds, hS'.r_ends, hS'.s_ends, hS'.r_there, hS'.s_there, hS'.r_offd, hS'.s_offd, hS'.r_had, hS'.s_had, hS'.r_rPer, hS'.s_rPer, hS'.r_rP, hS'.s_rP, hS'.r_per, hS'.s_per, hS'.r_pr, hS'.s_pr, hS'.r_rCode, hS'.s_rCode, hS'.r_rC, hS'.s_rC, hS'.r_code, hS'.s_code, hS'.r_cd, hS'.s_cd, hS'.r_kept, hS'.s_kept, hS'.r_kp, hS'.s_kp, hS'.r_holder, hS'.s_holder, hS'.r_hd, hS'.s_hd, hS'.r_pass, hS'.s_pass, hS'.r_ps, hS'.s_ps, hS'.r_debt, hS'.s_debt, hS'.r_db, hS'.s_db, hS'.r_endBy, hS'.s_endBy, hS'.r_eb, hS'.s_eb, vpT, vpk0, clk0, vpk1, clk1, vpk2, clk2, vpk3, clk3, vpk4, clk4, vpk5, clk5, vpk6, clk6, vpk7, clk7, vpk8, clk8, vpk9, clk9, nI_clamp, nI_1, true_and, eT, eh]
      rw [m_i_si, if_neg (by omega), eh, nI_1]
      have hF1 : FrS (QA k) M (m_si (m_si M' (271 + k) t (nI (L.getD i 0))) 268 k (nI (t + 1))) := (hF.tr (FrS.si (Or.inr (Or.inr (Or.inl rfl))) _)).tr (FrS.si (Or.inr (Or.inl ⟨Or.inl rfl, rfl⟩)) _)
      have hH1 : HDr (m_si (m_si M' (271 + k) t (nI (L.getD i 0))) 268 k (nI (t + 1))) k L (t + 1) := by
        refine ⟨by rw [m_i_si, if_pos ⟨rfl, rfl⟩], fun j hj => ?_⟩
        rw [m_i_si, if_neg (by omega), m_i_si]
        by_cases z : j = t
        · rw [if_pos ⟨rfl, z⟩, z, hti]
        · rw [if_neg (fun y => z y.2)]; exact hH.2 j (by omega)
      have g1 : ∀ a j, a ≠ 271 + k → a ≠ 268 → m_i (m_si (m_si M' (271 + k) t (nI (L.getD i 0))) 268 k (nI (t + 1))) a j = m_i M' a j := fun a j n1 n2 => by rw [m_i_si, if_neg (fun y => n2 y.1), m_i_si, if_neg (fun y => n1 y.1)]
      have hcf1 := (g1 265 k (by omega) (by omega)).trans hcf
      have hof1 : ∀ j, j < L.length → _ := fun j hj => (g1 346 j (by omega) (by omega)).trans (hof j hj)
      have hha1 : ∀ j, j < L.length → _ := fun j hj => (g1 347 j (by omega) (by omega)).trans (hha j hj)
      have hv1 := (g1 206 36 (by omega) (by omega)).trans hv
      have e571 := (g1 206 57 (by omega) (by omega)).trans e57
      have ea1 := (g1 347 i (by omega) (by omega)).trans ea
      have eo1 := (g1 346 i (by omega) (by omega)).trans eo
      generalize m_si (m_si M' (271 + k) t (nI (L.getD i 0))) 268 k (nI (t + 1)) = M1 at *
      clear g1
      have hS1 := hS.fr hF1
      rw [handS_succ] at hO2
      -- the end: who is asked goes
      have hgo : ∀ v' M2, offT c k (balL ps mm (c_nu c 7)) L mm t v = (false, v') → FrS (QA k) M M2 → HDr M2 k L (t + 1) → m_i M2 265 k = nI t → (∀ j, j < L.length → m_i M2 346 j = nI (ocN L.length t j)) → m_i M2 206 36 = nI v' → Φ (.inl (some (.int (nI i)))) M2 := fun v' M2 hof2 hF2 hH2 hcf2 ho2 hv2' => by
        rw [hof2, if_neg (show ¬ (false, v').1 = true from Bool.false_ne_true)] at hO2
        subst hO2
        have := h M2 hF2 ⟨hv2', hH2, hcf2, ho2⟩
        unfold askA at this
        rw [← hti]
        exact this
      have hF2 : FrS (QA k) M (m_si M1 347 i (nI (t / L.length) + 1)) := hF1.tr (FrS.si (Or.inr (Or.inr (Or.inr (Or.inr rfl)))) _)
      have g2 : ∀ a j, a ≠ 347 → m_i (m_si M1 347 i (nI (t / L.length) + 1)) a j = m_i M1 a j := fun a j n1 => by rw [m_i_si, if_neg (fun y => n1 y.1)]
      have hH2 : HDr (m_si M1 347 i (nI (t / L.length) + 1)) k L (t + 1) := ⟨(g2 _ _ (by omega)).trans hH1.1, fun j hj => (g2 _ _ (by omega)).trans (hH1.2 j hj)⟩
      have hcf2 := (g2 265 k (by omega)).trans hcf1
      have hof2 : ∀ j, j < L.length → _ := fun j hj => (g2 346 j (by omega)).trans (hof1 j hj)
      have hv2' := (g2 206 36 (by omega)).trans hv1
      have e572 := (g2 206 57 (by omega)).trans e571
      have eo2 := (g2 346 i (by omega)).trans eo1
      have hha2 : ∀ j, j < L.length → m_i (m_si M1 347 i (nI (t / L.length) + 1)) 347 j = nI (ocN L.length (t + 1) j) := fun j hj => by
        rw [m_i_si, ocN_step l1 hj, hti]
        by_cases z : j = i
        · rw [if_pos ⟨rfl, z⟩, if_pos z, nI_1, z, oc]
        · rw [if_neg (fun y => z y.2), if_neg z, Nat.add_zero]; exact hha1 j hj
      have h64 : Ev l G d mRe_askedAt 64 [.ref 206, .int (nI k), .int (nI mm), .int (nI i), .int (c_nu c 3), .int (c_nu c 4), w6, w7] [] M1 bc bs Φ := by
        refine bRe_askedAt_64 M1 206 _ _ _ _ _ _ _ ?_
        have ea1' : m_i M1 (m_r M1 206 56) (nI i).toNatClampNeg = nI (t / L.length) := by rw [hS1.r_had, nI_clamp (by omega)]; exact ea1
        rw [ea1']
        simp only [hS1.r_had, hS1.r_offd, nI_clamp (show i < 2 ^ 31 by omega)]
        generalize m_si M1 347 i (nI (t / L.length) + 1) = M2 at *
        clear g2
        have hS2 := hS.fr hF2
        have hstop : stopS c L mm (t / L.length) = true → ∀ (a b : Value), Ev l G d mRe_askedAt 111 [.ref 206, .int (nI k), .int (nI mm), .int (nI i), .int (c_nu c 3), .int (c_nu c 4), a, b] [] M2 bc bs Φ := fun hst a b => by
          refine bRe_askedAt_111 M2 206 _ _ _ _ _ _ _ ⟨hS2.c, ?_, hgo v M2 ?_ hF2 hH2 hcf2 hof2 hv2'⟩
          · rw [e572]; exact fun z => by have := (nI_eq (b := 0) (by omega) (by omega)).mp z; omega
          · unfold offT; rw [if_pos hst]
        have h115 : stopS c L mm (t / L.length) = false → ∀ (a b : Value), Ev l G d mRe_askedAt 115 [.ref 206, .int (nI k), .int (nI mm), .int (nI i), .int (c_nu c 3), .int (c_nu c 4), a, b] [] M2 bc bs Φ := fun hst a b => by
          have eT2 : ∀ j, j < L.length → m_i M2 345 j = nI (L.getD j 0) := fun j hj => by rw [hF2.1 _ _ (by unfold QA QO QN; omega)]; exact hT.2 j hj
          have hi2 : (i + 1) % L.length < L.length := Nat.mod_lt _ (by omega)
          refine bRe_askedAt_115 M2 206 _ _ _ _ _ _ _ ?_
          rw [e572, nI_1, mod_ref (by omega) l1 l8]
          have x1 := eT2 i hi
          have x2 := eT2 _ hi2
          simp (disch := omega) only [hS2.c, hS2.r_fed, hS2.s_fed, hS2.r_rKind, hS2.s_rKind, hS2.r_kind, hS2.s_kind, hS2.r_rNum, hS2.s_rNum, hS2.r_num, hS2.s_num, hS2.r_rLong, hS2.s_rLong, hS2.r_cLong, hS2.s_cLong, hS2.r_stack, hS2.s_stack, hS2.r_names, hS2.s_names, hS2.r_row, hS2.s_row, hS2.r_ruleOf, hS2.s_ruleOf, hS2.r_ways, hS2.s_ways, hS2.r_cWho, hS2.s_cWho, hS2.r_cMin, hS2.s_cMin, hS2.r_cOff, hS2.s_cOff, hS2.r_cTh, hS2.s_cTh, hS2.r_cEnd, hS2.s_cEnd, hS2.r_hds, hS2.s_hds, hS2.r_ends, hS2.s_ends, hS2.r_there, hS2.s_there, hS2.r_offd, hS2.s_offd, hS2.r_had, hS2.s_had, hS2.r_rPer, hS2.s_rPer, hS2.r_rP, hS2.s_rP, hS2.r_per, hS2.s_per, hS2.r_pr, hS2.s_pr, hS2.r_rCode, hS2.s_rCode, hS2.r_rC, hS2.s_rC, hS2.r_code, hS2.s_code, hS2.r_cd, hS2.s_cd, hS2.r_kept, hS2.s_kept, hS2.r_kp, hS2.s_kp, hS2.r_holder, hS2.s_holder, hS2.r_hd, hS2.s_hd, hS2.r_pass, hS2.s_pass, hS2.r_ps, hS2.s_ps, hS2.r_debt, hS2.s_debt, hS2.r_db, hS2.s_db, hS2.r_endBy, hS2.s_endBy, hS2.r_eb, hS2.s_eb, vpT, vpk0, clk0, vpk1, clk1, vpk2, clk2, vpk3, clk3, vpk4, clk4, vpk5, clk5, vpk6, clk6, vpk7, clk7, vpk8, clk8, vpk9, clk9, nI_clamp, nI_1, true_and, x1, x2]
          refine ⟨fun z => by have := (nI_eq (b := 0) (by omega) (by omega)).mp z; omega, CallVC.cps0 (by omega) ?_⟩
          have hC2 := hC.fr (hF2.mono (fun a j h => by unfold QA QO QN at h; unfold QD; omega))
          refine ct_offers M2 c hc R out hC2 ps (hp.fr hF2 (by unfold QA QO QN; omega) (fun p j hp => by unfold QA QO QN; omega)) hix k _ _ mm v (lp i hi) (lp _ hi2) hm hv2' (by omega) (by omega) (fun M3 hF3 hv3 => ?_)
          have eoff : offT c k (balL ps mm (c_nu c 7)) L mm t v = offS c k (balL ps mm (c_nu c 7)) (mm / 60) (L.getD i 0) (L.getD ((i + 1) % L.length) 0) v := by
            unfold offT; rw [hst, if_neg (by decide), hti]
          rw [← eoff] at hv3 ⊢
          have hF3' : FrS (QA k) M M3 := hF2.tr (hF3.mono (fun a j h => Or.inl h))
          have g3 : ∀ a j, ¬ QO a j → m_i M3 a j = m_i M2 a j := fun a j n => hF3.1 a j n
          have hS3 := hS.fr hF3'
          have hH3 : HDr M3 k L (t + 1) := ⟨(g3 _ _ (by unfold QO QN; omega)).trans hH2.1, fun j hj => (g3 _ _ (by unfold QO QN; omega)).trans (hH2.2 j hj)⟩
          have hcf3 := (g3 265 k (by unfold QO QN; omega)).trans hcf2
          have hof3 : ∀ j, j < L.length → _ := fun j hj => (g3 346 j (by unfold QO QN; omega)).trans (hof2 j hj)
          have eo3 := (g3 346 i (by unfold QO QN; omega)).trans eo2
          have hha3 : ∀ j, j < L.length → _ := fun j hj => (g3 347 j (by unfold QO QN; omega)).trans (hha2 j hj)
          refine bRe_askedAt_152 M3 206 _ _ _ _ _ _ _ _ ⟨fun z => ?_, fun z => ?_⟩
          · have hb : (offT c k (balL ps mm (c_nu c 7)) L mm t v).1 = true := by
              cases hb : (offT c k (balL ps mm (c_nu c 7)) L mm t v).1 with
              | true => rfl
              | false => rw [hb] at z; exact absurd rfl z
            rw [hb, if_pos rfl] at hO2
            simp (disch := omega) only [hS3.c, hS3.r_fed, hS3.s_fed, hS3.r_rKind, hS3.s_rKind, hS3.r_kind, hS3.s_kind, hS3.r_rNum, hS3.s_rNum, hS3.r_num, hS3.s_num, hS3.r_rLong, hS3.s_rLong, hS3.r_cLong, hS3.s_cLong, hS3.r_stack, hS3.s_stack, hS3.r_names, hS3.s_names, hS3.r_row, hS3.s_row, hS3.r_ruleOf, hS3.s_ruleOf, hS3.r_ways, hS3.s_ways, hS3.r_cWho, hS3.s_cWho, hS3.r_cMin, hS3.s_cMin, hS3.r_cOff, hS3.s_cOff, hS3.r_cTh, hS3.s_cTh, hS3.r_cEnd, hS3.s_cEnd, hS3.r_hds, hS3.s_hds, hS3.r_ends, hS3.s_ends, hS3.r_there, hS3.s_there, hS3.r_offd, hS3.s_offd, hS3.r_had, hS3.s_had, hS3.r_rPer, hS3.s_rPer, hS3.r_rP, hS3.s_rP, hS3.r_per, hS3.s_per, hS3.r_pr, hS3.s_pr, hS3.r_rCode, hS3.s_rCode, hS3.r_rC, hS3.s_rC, hS3.r_code, hS3.s_code, hS3.r_cd, hS3.s_cd, hS3.r_kept, hS3.s_kept, hS3.r_kp, hS3.s_kp, hS3.r_holder, hS3.s_holder, hS3.r_hd, hS3.s_hd, hS3.r_pass, hS3.s_pass, hS3.r_ps, hS3.s_ps, hS3.r_debt, hS3.s_debt, hS3.r_db, hS3.s_db, hS3.r_endBy, hS3.s_endBy, hS3.r_eb, hS3.s_eb, vpT, vpk0, clk0, vpk1, clk1, vpk2, clk2, vpk3, clk3, vpk4, clk4, vpk5, clk5, vpk6, clk6, vpk7, clk7, vpk8, clk8, vpk9, clk9, nI_clamp, nI_1, true_and, eo3]
            have a1 : m_i (m_si M3 346 i (nI (t / L.length + 1))) 265 k = nI t := by rw [m_i_si, if_neg (by omega)]; exact hcf3
            rw [a1, nI_1]
            refine bRe_askedAt_177 _ 206 _ _ _ _ _ _ _ ?_
            rw [← hti, mod_step l1]
            have hou := offT_u c k (balL ps mm (c_nu c 7)) L mm t v
            refine ih (t + 1) (offT c k (balL ps mm (c_nu c 7)) L mm t v).2 _ _ _ (by omega) (fun τ h1 h9 eτ => ?_) ((hF3'.tr (FrS.si (Or.inr (Or.inr (Or.inr (Or.inl rfl)))) _)).tr (FrS.si (Or.inr (Or.inl ⟨Or.inr rfl, rfl⟩)) _)) ⟨?_, fun j hj => ?_⟩ ?_ (fun j hj => ?_) (fun j hj => ?_) ?_ (by omega) hO2
            · have hlt : t / L.length < τ := by
                refine Nat.lt_of_not_le (fun y => ?_)
                have : stopS c L mm (t / L.length) = true := by
                  unfold stopS
                  refine decide_eq_true (Or.inr (Or.inl ⟨?_, ?_⟩))
                  · rw [eτ]; exact nI_neg (by omega)
                  · rw [eτ]; exact nI_le y (by omega)
                rw [hst] at this
                cases this
              have := (Nat.div_lt_iff_lt_mul (show 0 < L.length by omega)).mp hlt
              omega
            · rw [m_i_si, if_neg (by omega), m_i_si, if_neg (by omega)]; exact hH3.1
            · rw [m_i_si, if_neg (by omega), m_i_si, if_neg (by omega)]; exact hH3.2 j hj
            · rw [m_i_si, if_pos ⟨rfl, rfl⟩]
            · rw [m_i_si, if_neg (by omega), m_i_si, ocN_step l1 hj, hti]
              by_cases y : j = i
              · rw [if_pos ⟨rfl, y⟩, if_pos y, y, oc]
              · rw [if_neg (fun x => y x.2), if_neg y, Nat.add_zero]; exact hof3 j hj
            · rw [m_i_si, if_neg (by omega), m_i_si, if_neg (by omega)]; exact hha3 j hj
            · rw [m_i_si, if_neg (by omega), m_i_si, if_neg (by omega)]; exact hv3
          · have hb : (offT c k (balL ps mm (c_nu c 7)) L mm t v).1 = false := by
              cases hb : (offT c k (balL ps mm (c_nu c 7)) L mm t v).1 with
              | false => rfl
              | true => rw [hb] at z; exact absurd z (by decide)
            exact hgo _ M3 (Prod.ext hb rfl) hF3' hH3 hcf3 hof3 hv3
        rw [e572, eo2]
        simp only [hS1.s_had, hS1.s_offd]
        have e1 : nI L.length = 1 ↔ L.length = 1 := nI_eq (b := 1) (by omega) (by omega)
        have hne : ∀ r : Prop, r → stopS c L mm (t / L.length) = decide (L.length = 1 ∨ (¬ c_nu c 3 = -1 ∧ c_nu c 3 ≤ nI (t / L.length)) ∨ (¬ c_nu c 4 = -1 ∧ ¬ nI mm < c_nu c 4)) := fun _ _ => rfl
        have h99 : L.length ≠ 1 → ¬ (¬ c_nu c 3 = -1 ∧ c_nu c 3 ≤ nI (t / L.length)) → ∀ a b : Value, Ev l G d mRe_askedAt 99 [.ref 206, .int (nI k), .int (nI mm), .int (nI i), .int (c_nu c 3), .int (c_nu c 4), a, b] [] M2 bc bs Φ := fun y1 y2 a b => by
          refine bRe_askedAt_99 M2 206 _ _ _ _ _ _ _ ⟨fun z => h115 ?_ _ _, fun z => ⟨fun z2 => h115 ?_ _ _, fun z2 => hstop ?_ _ _⟩⟩
          · exact decide_eq_false (fun x => x.elim y1 (fun x => x.elim y2 (fun x => x.1 z)))
          · exact decide_eq_false (fun x => x.elim y1 (fun x => x.elim y2 (fun x => x.2 z2)))
          · exact decide_eq_true (Or.inr (Or.inr ⟨z, z2⟩))
        refine ⟨hS1.c, trivial, vp_in_nI (by omega) (by omega), fun z => hstop (decide_eq_true (Or.inl (e1.mp z))) _ _, fun z => ⟨fun z2 => h99 (fun y => z (e1.mpr y)) (fun y => y.1 z2) _ _, fun z2 => ⟨trivial, vp_in_nI (by omega) (by omega), fun z3 => hstop (decide_eq_true (Or.inr (Or.inl ⟨z2, z3⟩))) _ _, fun z3 => h99 (fun y => z (e1.mpr y)) (fun y => z3 y.2) _ _⟩⟩⟩
      refine bRe_askedAt_47 M1 206 _ _ _ _ _ _ _ ?_
      simp (disch := omega) only [hS1.c, hS1.r_fed, hS1.s_fed, hS1.r_rKind, hS1.s_rKind, hS1.r_kind, hS1.s_kind, hS1.r_rNum, hS1.s_rNum, hS1.r_num, hS1.s_num, hS1.r_rLong, hS1.s_rLong, hS1.r_cLong, hS1.s_cLong, hS1.r_stack, hS1.s_stack, hS1.r_names, hS1.s_names, hS1.r_row, hS1.s_row, hS1.r_ruleOf, hS1.s_ruleOf, hS1.r_ways, hS1.s_ways, hS1.r_cWho, hS1.s_cWho, hS1.r_cMin, hS1.s_cMin, hS1.r_cOff, hS1.s_cOff, hS1.r_cTh, hS1.s_cTh, hS1.r_cEnd, hS1.s_cEnd, hS1.r_hds, hS1.s_hds, hS1.r_ends, hS1.s_ends, hS1.r_there, hS1.s_there, hS1.r_offd, hS1.s_offd, hS1.r_had, hS1.s_had, hS1.r_rPer, hS1.s_rPer, hS1.r_rP, hS1.s_rP, hS1.r_per, hS1.s_per, hS1.r_pr, hS1.s_pr, hS1.r_rCode, hS1.s_rCode, hS1.r_rC, hS1.s_rC, hS1.r_code, hS1.s_code, hS1.r_cd, hS1.s_cd, hS1.r_kept, hS1.s_kept, hS1.r_kp, hS1.s_kp, hS1.r_holder, hS1.s_holder, hS1.r_hd, hS1.s_hd, hS1.r_pass, hS1.s_pass, hS1.r_ps, hS1.s_ps, hS1.r_debt, hS1.s_debt, hS1.r_db, hS1.s_db, hS1.r_endBy, hS1.s_endBy, hS1.r_eb, hS1.s_eb, vpT, vpk0, clk0, vpk1, clk1, vpk2, clk2, vpk3, clk3, vpk4, clk4, vpk5, clk5, vpk6, clk6, vpk7, clk7, vpk8, clk8, vpk9, clk9, nI_clamp, nI_1, true_and, ea1]
      refine ⟨fun _ => h64, fun z => ⟨fun _ => h64, fun z2 => absurd ?_ z⟩⟩
      have et : t < L.length := by unfold fuelS at ht; rw [if_pos z2] at ht; omega
      rw [Nat.div_eq_of_lt et]
      exact nI_le (a := 0) (b := 0) (Nat.le_refl _) (by omega)
  have z0 : ∀ j, nI (ocN L.length 0 j) = 0 := fun j => by unfold ocN; rw [Nat.zero_div, Nat.zero_mod, if_neg (Nat.not_lt_zero j)]; rfl
  have := loop (fuelS c L) 0 u .null .null M (by omega) (fun τ _ _ _ => Nat.zero_le _) (FrS.rf _ _) ⟨hh0, fun j hj => absurd hj (Nat.not_lt_zero j)⟩ hc0 (fun j hj => by rw [ho0 j hj, z0]) (fun j hj => by rw [ha0 j hj, z0]) hu (by omega) hO
  rw [Nat.zero_mod] at this
  exact this
end SR4
