/-! ===== the reference: rows of WAYS ===== -/
def dg (n r p : Nat) : Nat := r / 5 ^ (n - 1 - p) % 5
def eB (w : Wd) (r p : Nat) : Nat := lateN (g_eo (dyW w 0 none 0 none 0 0 (fun q => dg (w_n w) r q)) p)
def rsN (n r p v : Nat) : Nat := r - dg n r p * 5 ^ (n - 1 - p) + v * 5 ^ (n - 1 - p)
def isR (w : Wd) (r : Nat) : Bool := (List.range (w_n w)).all (fun p => (List.range 5).all (fun v => !decide (eB w (rsN (w_n w) r p v) p < eB w r p)))
theorem isR_iff (w : Wd) (r : Nat) : isR w r = true ↔ ∀ p, p < w_n w → ∀ v, v < 5 → ¬ eB w (rsN (w_n w) r p v) p < eB w r p := by
  unfold isR
  rw [List.all_eq_true]
  constructor
  · intro h p hp v hv
    have := h p (List.mem_range.mpr hp)
    rw [List.all_eq_true] at this
    have := this v (List.mem_range.mpr hv)
    simpa using this
  · intro h p hp
    rw [List.all_eq_true]
    intro v hv
    have := h p (List.mem_range.mp hp) v (List.mem_range.mp hv)
    simpa using this
/-- rows of rest from k on, e of them: how many, the first -/
def dcN (w : Wd) : Nat → Nat → Nat
  | 0, _ => 0
  | e + 1, k => dcN w e (k + 1) + (if isR w k = true then 1 else 0)
def fiN (w : Wd) : Nat → Nat → Option Nat
  | 0, _ => none
  | e + 1, k => if isR w k = true then some k else fiN w e (k + 1)
def sB (w : Wd) (r : Nat) : Nat → Nat
  | 0 => 0
  | p + 1 => sB w r p + eB w r p
def sbN (w : Wd) (r : Nat) : Nat := sB w r (w_n w)
def aRest (w : Wd) (x : Int32) : An := okV 1 w 1 x (if 5 < w_n w then (2, 0, w) else (0, if tN x = 0 then nI (dcN w (5 ^ w_n w) 0) else oN (fiN w (5 ^ w_n w) 0), w))
def aPolite (w : Wd) (x : Int32) : An := okV 1 w 1 x (if 5 < w_n w then (2, 0, w) else (0, if tN x = 0 then nI (bstN (sbN w) (5 ^ w_n w - 1)) else nI (sbN w (bstN (sbN w) (5 ^ w_n w - 1))), w))
theorem dg_lt (n r p : Nat) : dg n r p < 5 := Nat.mod_lt _ (by omega)
theorem eB_le {w : Wd} (hw : WOK w) (r p : Nat) : eB w r p ≤ 9999 := (late_sp (dyW_eo hw (fun q e => by cases e) (fun p q => by cases q) (fun q _ => by have := dg_lt (w_n w) r q; omega) p)).2.1
theorem p5_le {n : Nat} (h : n ≤ 5) : 5 ^ n ≤ 3125 ∧ 1 ≤ 5 ^ n := by
  have h1 := Nat.pow_le_pow_right (n := 5) (by omega) h
  have h2 := Nat.pow_pos (a := 5) (n := n) (by omega)
  exact ⟨h1, h2⟩
theorem rsN_lt {n r p v : Nat} (hp : p < n) (hr : r < 5 ^ n) (hv : v < 5) : rsN n r p v < 5 ^ n ∧ dg n r p * 5 ^ (n - 1 - p) ≤ r := by
  unfold rsN dg
  have hB : 0 < 5 ^ (n - 1 - p) := Nat.pow_pos (by omega)
  generalize hb : 5 ^ (n - 1 - p) = B at *
  have hA : 5 ^ n = 5 * B * 5 ^ p := by
    rw [← hb, Nat.mul_comm 5, ← Nat.pow_succ, ← Nat.pow_add]
    congr 1; omega
  have h1 := Nat.div_add_mod r B
  have h2 := Nat.div_add_mod (r / B) 5
  have h3 := Nat.mod_lt r hB
  have h4 := Nat.mod_lt (r / B) (show 0 < 5 by omega)
  have h5 : r / B / 5 < 5 ^ p := by
    rw [Nat.div_div_eq_div_mul, Nat.div_lt_iff_lt_mul (by omega)]
    rw [hA] at hr
    rw [Nat.mul_comm (5 ^ p), Nat.mul_comm B 5]
    exact hr
  generalize r / B / 5 = Q at *
  generalize r / B % 5 = D at *
  generalize r % B = S at *
  have e1 : r = B * (5 * Q) + B * D + S := by rw [← Nat.mul_add, h2]; omega
  have e2 : D * B ≤ r := by rw [Nat.mul_comm D B]; omega
  refine ⟨?_, e2⟩
  have e3 : r - D * B = B * (5 * Q) + S := by rw [Nat.mul_comm D B]; omega
  rw [e3, hA]
  have e4 : v * B ≤ 4 * B := Nat.mul_le_mul_right B (by omega)
  have e5 : 5 * B * (Q + 1) ≤ 5 * B * 5 ^ p := Nat.mul_le_mul_left _ h5
  have e6 : 5 * B * (Q + 1) = B * (5 * Q) + 5 * B := by rw [Nat.mul_add, Nat.mul_one, Nat.mul_comm 5 B, Nat.mul_assoc]
  omega
theorem rs_int {r o v B : Nat} (h : o * B ≤ r) : nI r + ((nI v - nI o) * nI B) = nI (r - o * B + v * B) := by
  have e : nI r = nI (r - o * B) + nI o * nI B := by rw [pk_mul, nI_add, Nat.sub_add_cancel h]
  rw [e, Int32.sub_mul, Int32.add_assoc, ← nI_add (r - o * B), ← pk_mul v B]
  congr 1
  rw [Int32.add_comm, Int32.sub_add_cancel]
section SRZ
variable {l : Launch} {G : Gx} {d : Nat} {bc bs : Nat} {Φ : OutV → Mm → Prop}
theorem ct_power (M : Mm) (k : Nat) (hk : k ≤ 8) (h : Φ (.inl (some (.int (nI (5 ^ k))))) M) : Ct l G d mRe_power bc bs [.int (nI k)] M Φ := by
  refine Ct.of rfl (Nat.le_of_ble_eq_true rfl) ?_
  refine bRe_power_0 _ _ ?_
  have loop : ∀ e i, i + e = k → Ev l G d mRe_power 4 [.int (nI k), .int (nI (5 ^ i)), .int (nI i)] [] M bc bs Φ := by
    intro e
    induction e with
    | zero =>
      intro i hi
      obtain rfl : i = k := by omega
      exact bRe_power_4 _ _ _ _ ⟨fun _ => h, fun z => absurd (nI_le (Nat.le_refl _) (by omega)) z⟩
    | succ e ih =>
      intro i hi
      refine bRe_power_4 _ _ _ _ ⟨fun z => absurd z (nI_not_le (by omega) (by omega)), fun _ => ?_⟩
      rw [show (5 : Int32) = nI 5 from rfl, pk_mul, ← Nat.pow_succ, nI_1]
      exact ih (i + 1) (by omega)
  exact loop k 0 (by omega)
theorem ct_allRows (M : Mm) (hS : RS M) (n : Nat) (hn : n ≤ 8) (h11 : m_i M 206 11 = nI n) (h : Φ (.inl (some (.int (nI (5 ^ n))))) M) : Ct l G d mRe_allRows bc bs [.ref 206] M Φ := by
  refine Ct.of rfl (Nat.le_of_ble_eq_true rfl) ?_
  refine bRe_allRows_0 _ _ ?_
  have loop : ∀ e i, i + e = n → Ev l G d mRe_allRows 4 [.ref 206, .int (nI (5 ^ i)), .int (nI i)] [] M bc bs Φ := by
    intro e
    induction e with
    | zero =>
      intro i hi
      obtain rfl : i = n := by omega
      exact bRe_allRows_4 _ _ _ _ ⟨hS.c, fun _ => h, fun z => absurd (by rw [h11]; exact nI_le (Nat.le_refl _) (by omega)) z⟩
    | succ e ih =>
      intro i hi
      refine bRe_allRows_4 _ _ _ _ ⟨hS.c, fun z => absurd z (by rw [h11]; exact nI_not_le (by omega) (by omega)), fun _ => ?_⟩
      rw [show (5 : Int32) = nI 5 from rfl, pk_mul, ← Nat.pow_succ, nI_1]
      exact ih (i + 1) (by omega)
  exact loop n 0 (by omega)
def EBr (M : Mm) (w : Wd) (k : Nat) : Prop := ∀ r, r < k → ∀ p, p < w_n w → m_i M (358 + r) p = nI (eB w r p)
def QE : Nat → Nat → Prop := fun a j => QY a j ∨ (358 ≤ a ∧ a < 358 + 3125)
theorem QE.r : ∀ a j, QE a j → QR a j := fun a j h => by unfold QE QY QD at h; unfold QR; omega
theorem EBr.fr {M M' : Mm} {w : Wd} {k : Nat} (h : EBr M w k) (hk : k ≤ 3125) (hF : FrS QY M M') : EBr M' w k := fun r hr p hp => by rw [hF.1 _ _ (by unfold QY QD; omega)]; exact h r hr p hp
theorem ct_layAll (M : Mm) (w : Wd) (hw : WOK w) (hI : RINV M w) (hn : w_n w ≤ 5) (hd : 6 < d) (h : ∀ M', FrS QE M M' → EBr M' w (5 ^ w_n w) → Φ (.inl none) M') : Ct l G d mRe_layAll bc bs [.ref 206] M Φ := by
  obtain ⟨p5, p5'⟩ := p5_le hn
  refine Ct.of rfl (Nat.le_of_ble_eq_true rfl) ?_
  refine bRe_layAll_0 _ _ ?_
  have lr : ∀ e r (u2 : Value) M', r + e = 5 ^ w_n w → FrS QE M M' → EBr M' w r → Ev l G d mRe_layAll 2 [.ref 206, .int (nI r), u2] [] M' bc bs Φ := by
    intro e
    induction e with
    | zero =>
      intro r u2 M' hr hF hE
      obtain rfl : r = 5 ^ w_n w := by omega
      have hI' := hI.fr hw (hF.mono QE.r)
      refine bRe_layAll_2 _ _ _ _ ⟨hI'.1.c, CallVC.cps0 (by omega) ?_⟩
      refine ct_allRows M' hI'.1 (w_n w) (by omega) hI'.2.1.1 ?_
      exact bRe_layAll_7 _ _ _ _ _ _ ⟨fun _ => h M' hF hE, fun z => absurd (nI_le (Nat.le_refl _) (by omega)) z⟩
    | succ e ih =>
      intro r u2 M' hr hF hE
      have hI' := hI.fr hw (hF.mono QE.r)
      refine bRe_layAll_2 _ _ _ _ ⟨hI'.1.c, CallVC.cps0 (by omega) ?_⟩
      refine ct_allRows M' hI'.1 (w_n w) (by omega) hI'.2.1.1 ?_
      refine bRe_layAll_7 _ _ _ _ _ _ ⟨fun z => absurd z (nI_not_le (by omega) (by omega)), fun _ => ⟨hI'.1.c, CallVC.cps0 (by omega) ?_⟩⟩
      refine ct_layWays M' hI'.1 (fun M1 hF1 _ => ?_)
      refine bRe_layAll_14 _ _ _ _ ?_
      -- what comes behind the DAY
      have h57 : ∀ e2 p M3, p + e2 = w_n w → RS M3 → m_i M3 206 11 = nI (w_n w) → (∀ q, q < 8 → m_i M3 269 q = g_eo (dyW w 0 none 0 none 0 0 (fun q => dg (w_n w) r q)) q) → FrS QE M M3 → EBr M3 w r → (∀ q, q < p → m_i M3 (358 + r) q = nI (eB w r q)) → Ev l G d mRe_layAll 57 [.ref 206, .int (nI r), .int (nI p)] [] M3 bc bs Φ := by
        intro e2
        induction e2 with
        | zero =>
          intro p M3 hp hS3 h11 hends hF3 hE3 hq
          refine bRe_layAll_57 _ _ _ _ ⟨hS3.c, fun _ => ?_, fun z => absurd (by rw [h11]; exact nI_le (by omega) (by omega)) z⟩
          rw [nI_1]
          refine ih (r + 1) _ M3 (by omega) hF3 (fun r' hr' q hq' => ?_)
          by_cases z : r' = r
          · rw [z]; exact hq q (by omega)
          · exact hE3 r' (by omega) q hq'
        | succ e2 ih2 =>
          intro p M3 hp hS3 h11 hends hF3 hE3 hq
          refine bRe_layAll_57 _ _ _ _ ⟨hS3.c, fun z => absurd z (by rw [h11]; exact nI_not_le (by omega) (by omega)), fun _ => ?_⟩
          simp (disch := omega) only [hS3.c, hS3.r_fed, hS3.s_fed, hS3.r_rKind, hS3.s_rKind, hS3.r_kind, hS3.s_kind, hS3.r_rNum, hS3.s_rNum, hS3.r_num, hS3.s_num, hS3.r_rLong, hS3.s_rLong, hS3.r_cLong, hS3.s_cLong, hS3.r_stack, hS3.s_stack, hS3.r_names, hS3.s_names, hS3.r_row, hS3.s_row, hS3.r_ruleOf, hS3.s_ruleOf, hS3.r_ways, hS3.s_ways, hS3.r_cWho, hS3.s_cWho, hS3.r_cMin, hS3.s_cMin, hS3.r_cOff, hS3.s_cOff, hS3.r_cTh, hS3.s_cTh, hS3.r_cEnd, hS3.s_cEnd, hS3.r_hds, hS3.s_hds, hS3.r_ends, hS3.s_ends, hS3.r_there, hS3.s_there, hS3.r_offd, hS3.s_offd, hS3.r_had, hS3.s_had, hS3.r_rPer, hS3.s_rPer, hS3.r_rP, hS3.s_rP, hS3.r_per, hS3.s_per, hS3.r_pr, hS3.s_pr, hS3.r_rCode, hS3.s_rCode, hS3.r_rC, hS3.s_rC, hS3.r_code, hS3.s_code, hS3.r_cd, hS3.s_cd, hS3.r_kept, hS3.s_kept, hS3.r_kp, hS3.s_kp, hS3.r_holder, hS3.s_holder, hS3.r_hd, hS3.s_hd, hS3.r_pass, hS3.s_pass, hS3.r_ps, hS3.s_ps, hS3.r_debt, hS3.s_debt, hS3.r_db, hS3.s_db, hS3.r_endBy, hS3.s_endBy, hS3.r_eb, hS3.s_eb, vpT, vpk0, clk0, vpk1, clk1, vpk2, clk2, vpk3, clk3, vpk4, clk4, vpk5, clk5, vpk6, clk6, vpk7, clk7, vpk8, clk8, vpk9, clk9, nI_clamp, nI_1, true_and]
          refine CallVC.cps0 (by omega) (ct_endOf M3 hS3 p (by omega) _ (hends p (by omega)) ?_)
          have hl := late_sp (dyW_eo hw (out := 0) (pl := none) (pb := 0) (tu := none) (tc := 0) (tw := 0) (wy := fun q => dg (w_n w) r q) (fun q e => by cases e) (fun p q => by cases q) (fun q _ => by have := dg_lt (w_n w) r q; omega) p)
          refine bRe_layAll_77 _ _ _ _ _ _ _ ?_
          have hF4 : FrS QE M3 (m_si M3 (358 + r) p (lateV (g_eo (dyW w 0 none 0 none 0 0 (fun q => dg (w_n w) r q)) p))) := FrS.si (by unfold QE; omega) _
          simp (disch := omega) only [hS3.c, hS3.r_fed, hS3.s_fed, hS3.r_rKind, hS3.s_rKind, hS3.r_kind, hS3.s_kind, hS3.r_rNum, hS3.s_rNum, hS3.r_num, hS3.s_num, hS3.r_rLong, hS3.s_rLong, hS3.r_cLong, hS3.s_cLong, hS3.r_stack, hS3.s_stack, hS3.r_names, hS3.s_names, hS3.r_row, hS3.s_row, hS3.r_ruleOf, hS3.s_ruleOf, hS3.r_ways, hS3.s_ways, hS3.r_cWho, hS3.s_cWho, hS3.r_cMin, hS3.s_cMin, hS3.r_cOff, hS3.s_cOff, hS3.r_cTh, hS3.s_cTh, hS3.r_cEnd, hS3.s_cEnd, hS3.r_hds, hS3.s_hds, hS3.r_ends, hS3.s_ends, hS3.r_there, hS3.s_there, hS3.r_offd, hS3.s_offd, hS3.r_had, hS3.s_had, hS3.r_rPer, hS3.s_rPer, hS3.r_rP, hS3.s_rP, hS3.r_per, hS3.s_per, hS3.r_pr, hS3.s_pr, hS3.r_rCode, hS3.s_rCode, hS3.r_rC, hS3.s_rC, hS3.r_code, hS3.s_code, hS3.r_cd, hS3.s_cd, hS3.r_kept, hS3.s_kept, hS3.r_kp, hS3.s_kp, hS3.r_holder, hS3.s_holder, hS3.r_hd, hS3.s_hd, hS3.r_pass, hS3.s_pass, hS3.r_ps, hS3.s_ps, hS3.r_debt, hS3.s_debt, hS3.r_db, hS3.s_db, hS3.r_endBy, hS3.s_endBy, hS3.r_eb, hS3.s_eb, vpT, vpk0, clk0, vpk1, clk1, vpk2, clk2, vpk3, clk3, vpk4, clk4, vpk5, clk5, vpk6, clk6, vpk7, clk7, vpk8, clk8, vpk9, clk9, nI_clamp, nI_1, true_and]
          refine ih2 (p + 1) _ (by omega) (hS3.fr hF4) (by rw [m_i_si, if_neg (by omega)]; exact h11) (fun q hq8 => by rw [m_i_si, if_neg (by omega)]; exact hends q hq8) (hF3.tr hF4) (fun r' hr' q hq' => by rw [m_i_si, if_neg (by omega)]; exact hE3 r' hr' q hq') (fun q hq2 => ?_)
          rw [m_i_si]
          by_cases z : q = p
          · rw [if_pos ⟨rfl, z⟩, z, hl.1]; rfl
          · rw [if_neg (fun y => z y.2)]; exact hq q (by omega)
      have lp : ∀ e2 p M2, p + e2 = w_n w → FrS (fun a _ => a = 262) M' M2 → (∀ q, q < p → m_i M2 262 q = nI (dg (w_n w) r q)) → Ev l G d mRe_layAll 16 [.ref 206, .int (nI r), .int (nI p)] [] M2 bc bs Φ := by
        intro e2
        induction e2 with
        | zero =>
          intro p M2 hp hF2 hq
          have hF2y : FrS QY M' M2 := hF2.mono (fun a j q => Or.inr (Or.inr q))
          have hI2 := hI'.fr hw (hF2y.mono QY.r)
          refine bRe_layAll_16 _ _ _ _ ⟨hI2.1.c, fun _ => CallVC.cps0 (by omega) ?_, fun z => absurd (by rw [hI2.2.1.1]; exact nI_le (by omega) (by omega)) z⟩
          refine ct_day0W M2 w hw 0 (by omega) none 0 none 0 0 (fun q => dg (w_n w) r q) hI2.rin (fun q e => by cases e) (fun p q => by cases q) (fun q _ => by have := dg_lt (w_n w) r q; omega) (fun q hq8 => hq q (by omega)) (by omega) (fun M3 hF3 hD3 hC3 => ?_)
          have hF3y : FrS QY M2 M3 := hF3.mono (fun a j q => q.elim Or.inl (fun z => Or.inr (Or.inl z)))
          refine bRe_layAll_55 _ _ _ _ ?_
          exact h57 (w_n w) 0 M3 (by omega) hC3.1 hC3.2.1.1 hD3.1.2.2.2.2.2.1 ((hF.tr (hF2y.mono (fun a j q => Or.inl q))).tr (hF3y.mono (fun a j q => Or.inl q))) ((hE.fr (by omega) hF2y).fr (by omega) hF3y) (fun q hq0 => absurd hq0 (Nat.not_lt_zero q))
        | succ e2 ih2 =>
          intro p M2 hp hF2 hq
          have hS2 := hI'.1.fr hF2
          have h11 : m_i M2 206 11 = nI (w_n w) := by rw [hF2.1 _ _ (by omega)]; exact hI'.2.1.1
          refine bRe_layAll_16 _ _ _ _ ⟨hS2.c, fun z => absurd z (by rw [h11]; exact nI_not_le (by omega) (by omega)), fun _ => CallVC.cps0 (by omega) ?_⟩
          obtain ⟨m, hm⟩ : ∃ m, w_n w = m + 1 := ⟨w_n w - 1, by omega⟩
          rw [h11, hm, nI_pred, pk_sub (show p ≤ m by omega)]
          refine ct_power M2 (m - p) (by omega) ?_
          obtain ⟨c1, c2⟩ := p5_le (n := m - p) (by omega)
          refine bRe_layAll_41 _ _ _ _ _ _ _ _ ?_
          rw [pk_div (by omega) (by omega) (by omega), show (5 : Int32) = nI 5 from rfl, pk_rem (Nat.lt_of_le_of_lt (Nat.div_le_self _ _) (by omega)) (by omega) (by omega)]
          simp (disch := omega) only [hS2.c, hS2.r_fed, hS2.s_fed, hS2.r_rKind, hS2.s_rKind, hS2.r_kind, hS2.s_kind, hS2.r_rNum, hS2.s_rNum, hS2.r_num, hS2.s_num, hS2.r_rLong, hS2.s_rLong, hS2.r_cLong, hS2.s_cLong, hS2.r_stack, hS2.s_stack, hS2.r_names, hS2.s_names, hS2.r_row, hS2.s_row, hS2.r_ruleOf, hS2.s_ruleOf, hS2.r_ways, hS2.s_ways, hS2.r_cWho, hS2.s_cWho, hS2.r_cMin, hS2.s_cMin, hS2.r_cOff, hS2.s_cOff, hS2.r_cTh, hS2.s_cTh, hS2.r_cEnd, hS2.s_cEnd, hS2.r_hds, hS2.s_hds, hS2.r_ends, hS2.s_ends, hS2.r_there, hS2.s_there, hS2.r_offd, hS2.s_offd, hS2.r_had, hS2.s_had, hS2.r_rPer, hS2.s_rPer, hS2.r_rP, hS2.s_rP, hS2.r_per, hS2.s_per, hS2.r_pr, hS2.s_pr, hS2.r_rCode, hS2.s_rCode, hS2.r_rC, hS2.s_rC, hS2.r_code, hS2.s_code, hS2.r_cd, hS2.s_cd, hS2.r_kept, hS2.s_kept, hS2.r_kp, hS2.s_kp, hS2.r_holder, hS2.s_holder, hS2.r_hd, hS2.s_hd, hS2.r_pass, hS2.s_pass, hS2.r_ps, hS2.s_ps, hS2.r_debt, hS2.s_debt, hS2.r_db, hS2.s_db, hS2.r_endBy, hS2.s_endBy, hS2.r_eb, hS2.s_eb, vpT, vpk0, clk0, vpk1, clk1, vpk2, clk2, vpk3, clk3, vpk4, clk4, vpk5, clk5, vpk6, clk6, vpk7, clk7, vpk8, clk8, vpk9, clk9, nI_clamp, nI_1, true_and]
          refine ⟨fun z => by have := (nI_eq (b := 0) (by omega) (by omega)).mp z; omega, ?_⟩
          refine ih2 (p + 1) _ (by omega) (hF2.tr (FrS.si (P := fun a _ => a = 262) rfl _)) (fun q hq2 => ?_)
          rw [m_i_si]
          by_cases z : q = p
          · rw [if_pos ⟨rfl, z⟩, z]
            unfold dg
            rw [hm, show m + 1 - 1 - p = m - p by omega]
          · rw [if_neg (fun y => z y.2)]; exact hq q (by omega)
      exact lp (w_n w) 0 M1 (by omega) hF1 (fun q hq0 => absurd hq0 (Nat.not_lt_zero q))
  exact lr (5 ^ w_n w) 0 _ M (by omega) (FrS.rf _ _) (fun r hr => absurd hr (Nat.not_lt_zero r))
end SRZ
