/-! ===== the reference: rest, polite; RULES struck ===== -/
theorem nI_or (a b : Nat) : nI a ||| nI b = nI (a ||| b) := by
  apply Int32.toBitVec_inj.mp
  show BitVec.ofNat 32 a ||| BitVec.ofNat 32 b = BitVec.ofNat 32 (a ||| b)
  rw [BitVec.ofNat_or]
def svW (w : Wd) (out : Nat) : Nat := g_sv (dyW w out none 0 none 0 0 (fun q => w_F w q 5))
def accN (sv : Nat) : Nat → Nat
  | 0 => 0
  | p + 1 => if sv.testBit p = true then accN sv p ||| 2 ^ p else accN sv p
theorem accN_eq {sv n : Nat} (hn : n ≤ 8) (h : sv < 2 ^ n) : accN sv n = sv := by
  have h1 : ∀ n, n < 9 → ∀ sv, sv < 2 ^ n → accN sv n = sv := by decide +kernel
  exact h1 n (by omega) sv h
theorem accN_lt {sv p : Nat} (hp : p ≤ 8) (hs : sv < 256) : accN sv p < 256 := by
  have h1 : ∀ p, p < 9 → ∀ sv, sv < 256 → accN sv p < 256 := by decide +kernel
  exact h1 p (by omega) sv hs
theorem sv_lt {c : Cf} {s : Sg} (h : SOK c s) : g_sv s < 2 ^ c_n c := by
  refine Nat.lt_pow_two_of_testBit _ (fun i hi => ?_)
  by_cases z : i < 8
  · cases q : (g_sv s).testBit i with
    | false => rfl
    | true =>
      have := (h.2.2.2.2.1 i z).mp q
      have := (h.2.1 i this).1
      omega
  · refine Nat.testBit_lt_two_pow (Nat.lt_of_lt_of_le h.2.2.2.1 ?_)
    exact Nat.pow_le_pow_right (n := 2) (i := 8) (by omega) (by omega)
theorem sh1_n {n : Nat} (h : n ≤ 8) : (1 : Int32) <<< (nI n &&& 31) - 1 = nI (2 ^ n - 1) := by
  have h1 : ∀ n, n < 9 → (1 : Int32) <<< (nI n &&& 31) - 1 = nI (2 ^ n - 1) := by decide +kernel
  exact h1 n (by omega)
theorem sh1_r {n : Nat} (h : n ≤ 10) : (1 : Int32) <<< (nI n &&& 31) = nI (2 ^ n) := by
  have h1 : ∀ n, n < 11 → (1 : Int32) <<< (nI n &&& 31) = nI (2 ^ n) := by decide +kernel
  exact h1 n (by omega)
/-- the best set of the first k -/
def stC (w : Wd) (o : Option Nat) (k : Nat) : Option Nat := match o with
  | none => if svW w k = 2 ^ w_n w - 1 then some k else none
  | some b => if onesN 10 k < onesN 10 b ∧ svW w k = 2 ^ w_n w - 1 then some k else some b
def stS (w : Wd) : Nat → Option Nat
  | 0 => none
  | k + 1 => stC w (stS w k) k
theorem stS_lt (w : Wd) : ∀ k b, stS w k = some b → b < k
  | 0, _, h => by cases h
  | k + 1, b, h => by
    have ih := stS_lt w k
    unfold stS stC at h
    split at h
    · split at h
      · cases h; omega
      · cases h
    · rename_i b' hb'
      have := ih b' hb'
      split at h <;> cases h <;> omega
theorem stC_none (w : Wd) (k : Nat) : stC w none k = if svW w k = 2 ^ w_n w - 1 then some k else none := rfl
theorem stC_some (w : Wd) (b k : Nat) : stC w (some b) k = if onesN 10 k < onesN 10 b ∧ svW w k = 2 ^ w_n w - 1 then some k else some b := rfl
def orW (w : Wd) : Nat → Nat
  | 0 => 0
  | k + 1 => orW w k ||| svW w k
def hpV (w : Wd) : Int32 := nI (2 ^ w_n w - 1) &&& (nI (orW w (2 ^ (w_R w).length)) ^^^ (-1))
def strV (o : Option Nat) (k : Nat) : Int32 := match o with
  | none => -1
  | some b => if k = 0 then nI b else nI (onesN 10 b)
def aStruck (w : Wd) (x : Int32) : An := okV 1 w 1 x (0, strV (stS w (2 ^ (w_R w).length)) (tN x), w)
def aHopeless (w : Wd) : An := (0, hpV w, w)
theorem onesN_le : ∀ k s, onesN k s ≤ k
  | 0, _ => Nat.le_refl _
  | k + 1, s => by
    have := onesN_le k s
    show onesN k s + _ ≤ _
    split <;> omega
section SS0
variable {l : Launch} {G : Gx} {d : Nat} {bc bs : Nat} {Φ : OutV → Mm → Prop}
theorem ct_ones (M : Mm) (s : Nat) (hs : s < 1024) (h : Φ (.inl (some (.int (nI (onesN 10 s))))) M) : Ct l G d mRe_ones bc bs [.int (nI s)] M Φ := by
  refine Ct.of rfl (Nat.le_of_ble_eq_true rfl) ?_
  refine bRe_ones_0 _ _ ?_
  have loop : ∀ e i, i + e = 10 → Ev l G d mRe_ones 4 [.int (nI s), .int (nI (onesN i s)), .int (nI i)] [] M bc bs Φ := by
    intro e
    induction e with
    | zero =>
      intro i hi
      obtain rfl : i = 10 := by omega
      exact bRe_ones_4 _ _ _ _ ⟨fun _ => h, fun z => absurd (nI_le (a := 10) (Nat.le_refl _) (by omega)) z⟩
    | succ e ih =>
      intro i hi
      refine bRe_ones_4 _ _ _ _ ⟨fun z => absurd z (nI_not_le (b := 10) (by omega) (by omega)), fun _ => ?_⟩
      have hn := ih (i + 1) (by omega)
      have e1 : onesN (i + 1) s = onesN i s + (if s.testBit i = true then 1 else 0) := rfl
      rw [e1] at hn
      rw [bit_get10 hs (by omega), nI_1]
      cases hb : s.testBit i with
      | true => rw [hb, if_pos rfl] at hn; rw [if_pos rfl, nI_1]; exact hn
      | false => rw [hb, if_neg (by decide)] at hn; rw [if_neg (by decide), Int32.add_zero]; exact hn
  exact loop 10 0 (by omega)
theorem ct_servedWithout (M : Mm) (w : Wd) (hw : WOK w) (hI : RINV M w) (out : Nat) (ho : out < 1024) (hd : 7 < d) (h : ∀ M', FrS QR2 M M' → RINV M' w → m_i M' 206 0 = m_i M 206 0 → Φ (.inl (some (.int (nI (svW w out))))) M') : Ct l G d mRe_servedWithout bc bs [.ref 206, .int (nI out)] M Φ := by
  have n8 := hw.1
  have hS := hI.1
  refine Ct.of rfl (Nat.le_of_ble_eq_true rfl) ?_
  refine bRe_servedWithout_0 _ _ _ ⟨hS.c, CallVC.cps0 (by omega) ?_⟩
  have hF1 : FrS (fun a j => a = 206 ∧ j = 33) M (m_si M 206 33 (nI out)) := FrS.si ⟨rfl, rfl⟩ _
  have y33 : m_i (m_si M 206 33 (nI out)) 206 33 = nI out := by rw [m_i_si, if_pos ⟨rfl, rfl⟩]
  generalize m_si M 206 33 (nI out) = M1 at *
  obtain ⟨a1, a2, a3, a4, a5, a6, a7, a8⟩ := hI.rin
  have hR1 : RIN M1 w out none 0 none 0 0 := ⟨a1.fr hF1, a2.fr hF1 (by omega) (fun p j hp => by omega), a3.fr hF1 (by omega) (fun j => by omega) (fun j => by omega) (fun j => by omega) (fun i j hi => by omega), y33, by rw [hF1.1 _ _ (by omega)]; exact a5, (fun p q => by cases q), by rw [hF1.1 _ _ (by omega)]; exact a7, (fun p q => by cases q)⟩
  refine ct_asItIsW M1 w hw out ho none 0 none 0 0 hR1 (fun p q => by cases q) (fun p q => by cases q) (by omega) (fun M2 hF2 hD2 hC2 => ?_)
  have hok := (dyW_ok hw (out := out) (pl := none) (pb := 0) (tu := none) (tc := 0) (tw := 0) (wy := fun q => w_F w q 5) (fun p q => by cases q) (fun p q => by cases q) (fun p hp => (hw.2.1 p hp).2.2.2.2.2.1)).1
  have hsv : svW w out < 2 ^ w_n w := sv_lt hok
  have hsv8 : svW w out < 256 := hok.2.2.2.1
  have hbit : ∀ p, p < 8 → (g_eo (dyW w out none 0 none 0 0 (fun q => w_F w q 5)) p = -1 ↔ (svW w out).testBit p = false) := fun p hp => by
    rw [hok.2.2.2.2.2.2.2.2.2.1 p hp, ← hok.2.2.2.2.1 p hp]
    exact Bool.not_eq_true _ |>.to_iff
  have hends := hD2.1.2.2.2.2.2.1
  refine bRe_servedWithout_9 _ _ _ _ _ ⟨hC2.1.c, ?_⟩
  have hF3 : FrS QR2 M (m_si M2 206 33 0) := ((hF1.mono (fun a j q => by unfold QR2 QR; omega)).tr (hF2.mono (fun a j q => QR.two a j (QY.r a j q)))).tr (FrS.si (by unfold QR2; omega) _)
  have g : ∀ a j, (a = 206 ∧ (j = 0 ∨ j = 34 ∨ j = 37 ∨ j = 11)) → m_i (m_si M2 206 33 0) a j = m_i M a j := fun a j q => by rw [m_i_si, if_neg (by omega), hF2.1 _ _ (by unfold QY QD; omega), hF1.1 _ _ (by omega)]
  have hI3 : RINV (m_si M2 206 33 0) w := hI.fr2 hw hF3 (by rw [m_i_si, if_pos ⟨rfl, rfl⟩]) (by rw [g _ _ (by omega)]; exact a5) (by rw [g _ _ (by omega)]; exact a7)
  have t3 : m_i (m_si M2 206 33 0) 206 0 = m_i M 206 0 := g _ _ (by omega)
  have he3 : ∀ p, p < 8 → m_i (m_si M2 206 33 0) 269 p = g_eo (dyW w out none 0 none 0 0 (fun q => w_F w q 5)) p := fun p hp => by rw [m_i_si, if_neg (by omega)]; exact hends p hp
  generalize m_si M2 206 33 0 = M3 at *
  have hS3 := hI3.1
  have h11 := hI3.2.1.1
  have loop : ∀ e p, p + e = w_n w → Ev l G d mRe_servedWithout 18 [.ref 206, .int (nI out), .int (nI (accN (svW w out) p)), .int (nI p)] [] M3 bc bs Φ := by
    intro e
    induction e with
    | zero =>
      intro p hp
      obtain rfl : p = w_n w := by omega
      refine bRe_servedWithout_18 _ _ _ _ _ ⟨hS3.c, fun _ => ?_, fun z => absurd (by rw [h11]; exact nI_le (Nat.le_refl _) (by omega)) z⟩
      rw [accN_eq n8 hsv]
      exact h M3 hF3 hI3 t3
    | succ e ih =>
      intro p hp
      have hn := ih (p + 1) (by omega)
      have ha : accN (svW w out) (p + 1) = if (svW w out).testBit p = true then accN (svW w out) p ||| 2 ^ p else accN (svW w out) p := rfl
      have he := he3 p (by omega)
      have hb := hbit p (by omega)
      refine bRe_servedWithout_18 _ _ _ _ _ ⟨hS3.c, fun z => absurd z (by rw [h11]; exact nI_not_le (by omega) (by omega)), fun _ => ?_⟩
      simp (disch := omega) only [hS3.c, hS3.r_fed, hS3.s_fed, hS3.r_rKind, hS3.s_rKind, hS3.r_kind, hS3.s_kind, hS3.r_rNum, hS3.s_rNum, hS3.r_num, hS3.s_num, hS3.r_rLong, hS3.s_rLong, hS3.r_cLong, hS3.s_cLong, hS3.r_stack, hS3.s_stack, hS3.r_names, hS3.s_names, hS3.r_row, hS3.s_row, hS3.r_ruleOf, hS3.s_ruleOf, hS3.r_ways, hS3.s_ways, hS3.r_cWho, hS3.s_cWho, hS3.r_cMin, hS3.s_cMin, hS3.r_cOff, hS3.s_cOff, hS3.r_cTh, hS3.s_cTh, hS3.r_cEnd, hS3.s_cEnd, hS3.r_hds, hS3.s_hds, hS3.r_ends, hS3.s_ends, hS3.r_there, hS3.s_there, hS3.r_offd, hS3.s_offd, hS3.r_had, hS3.s_had, hS3.r_rPer, hS3.s_rPer, hS3.r_rP, hS3.s_rP, hS3.r_per, hS3.s_per, hS3.r_pr, hS3.s_pr, hS3.r_rCode, hS3.s_rCode, hS3.r_rC, hS3.s_rC, hS3.r_code, hS3.s_code, hS3.r_cd, hS3.s_cd, hS3.r_kept, hS3.s_kept, hS3.r_kp, hS3.s_kp, hS3.r_holder, hS3.s_holder, hS3.r_hd, hS3.s_hd, hS3.r_pass, hS3.s_pass, hS3.r_ps, hS3.s_ps, hS3.r_debt, hS3.s_debt, hS3.r_db, hS3.s_db, hS3.r_endBy, hS3.s_endBy, hS3.r_eb, hS3.s_eb, vpT, vpk0, clk0, vpk1, clk1, vpk2, clk2, vpk3, clk3, vpk4, clk4, vpk5, clk5, vpk6, clk6, vpk7, clk7, vpk8, clk8, vpk9, clk9, nI_clamp, nI_1, true_and, he]
      refine ⟨fun z => ?_, fun z => ?_⟩
      · have : (svW w out).testBit p = true := by
          cases q : (svW w out).testBit p with
          | true => rfl
          | false => exact absurd (hb.mpr q) z
        rw [ha, if_pos this] at hn
        rw [(bit_set (accN_lt (by omega) hsv8) (by omega)).1]
        exact hn
      · have : ¬ (svW w out).testBit p = true := by rw [hb.mp z]; decide
        rw [ha, if_neg this] at hn
        rw [Int32.or_zero]
        exact hn
  exact loop (w_n w) 0 (by omega)
theorem ct_r_hopeless (M : Mm) (w : Wd) (hw : WOK w) (hI : RINV M w) (hd : 8 < d) (h : RPost M (aHopeless w) Φ) : Ct l G d mRe_hopeless bc bs [.ref 206] M Φ := by
  refine Ct.of rfl (Nat.le_of_ble_eq_true rfl) ?_
  have n8 := hw.1
  obtain ⟨hF0, hI0, t0⟩ := hI.t0 hw
  have hS0 := hI0.1
  have hR := hw.2.2.2.1
  have h2R : 2 ^ (w_R w).length ≤ 1024 := Nat.pow_le_pow_right (n := 2) (j := 10) (by omega) hR
  refine bRe_hopeless_0 _ _ ⟨hI.1.c, ?_⟩
  generalize m_si M 206 0 0 = M0 at *
  have loop : ∀ e k M', k + e = 2 ^ (w_R w).length → FrS QR2 M0 M' → RINV M' w → m_i M' 206 0 = 0 → Ev l G d mRe_hopeless 9 [.ref 206, .int (nI (orW w k)), .int (nI k)] [] M' bc bs Φ := by
    intro e
    induction e with
    | zero =>
      intro k M' hk hF hI' t'
      obtain rfl : k = 2 ^ (w_R w).length := by omega
      refine bRe_hopeless_9 _ _ _ _ ⟨hI'.1.c, ?_⟩
      rw [hI'.2.2.1.1, hI'.2.1.1, sh1_r hR, sh1_n n8]
      exact ⟨fun _ => h.done2 ((hF0.mono QR.two).tr hF) hI' t' rfl, fun z => absurd (nI_le (Nat.le_refl _) (by omega)) z⟩
    | succ e ih =>
      intro k M' hk hF hI' t'
      refine bRe_hopeless_9 _ _ _ _ ⟨hI'.1.c, ?_⟩
      rw [hI'.2.2.1.1, hI'.2.1.1, sh1_r hR, sh1_n n8]
      refine ⟨fun z => absurd z (nI_not_le (by omega) (by omega)), fun _ => CallVC.cps0 (by omega) ?_⟩
      refine ct_servedWithout M' w hw hI' k (by omega) (by omega) (fun M2 hF2 hI2 t2 => ?_)
      refine bRe_hopeless_25 _ _ _ _ _ _ ?_
      rw [nI_or, nI_1]
      exact ih (k + 1) M2 (by omega) (hF.tr hF2) hI2 (t2.trans t')
  exact loop (2 ^ (w_R w).length) 0 M0 (by omega) (FrS.rf _ _) hI0 t0
theorem ct_r_struck (M : Mm) (w : Wd) (hw : WOK w) (hI : RINV M w) (x : Int32) (hd : 8 < d) (h : RPost M (aStruck w x) Φ) : Ct l G d mRe_struck bc bs [.ref 206, .int x] M Φ := by
  refine Ct.of rfl (Nat.le_of_ble_eq_true rfl) ?_
  have n8 := hw.1
  obtain ⟨hF0, hI0, t0⟩ := hI.t0 hw
  have hS0 := hI0.1
  have hR := hw.2.2.2.1
  have h2R : 2 ^ (w_R w).length ≤ 1024 := Nat.pow_le_pow_right (n := 2) (j := 10) (by omega) hR
  refine bRe_struck_0 _ _ _ ⟨hI.1.c, CallVC.cps0 (by omega) ?_⟩
  generalize m_si M 206 0 0 = M0 at *
  refine ct_inV M0 1 x (fun q1 => ?_) (fun q1 => ?_)
  rotate_left
  · refine bRe_struck_12 _ _ _ _ _ _ _ ?_
    refine ⟨fun z => ?_, fun z => ?_⟩ <;> first | exact absurd rfl z | exact absurd z (by decide) | skip
    refine ⟨hS0.c, CallVC.cps0 (by omega) (ct_bad1 M0 _ hS0 t0 (by decide) ?_)⟩
    refine bRe_struck_24 _ _ _ _ _ _ ?_
    refine ⟨fun z => ?_, fun z => ?_⟩ <;> first | exact absurd rfl z | exact absurd z (by decide) | skip
    exact h.fail hw hF0 hI0 (code := 1) rfl (okV_n q1)
  refine bRe_struck_12 _ _ _ _ _ _ _ ?_
  refine ⟨fun z => ?_, fun z => ?_⟩ <;> first | exact absurd rfl z | exact absurd z (by decide) | skip
  refine ⟨hS0.c, CallVC.cps0 (by omega) (ct_bad0 M0 _ hS0 t0 ?_)⟩
  refine bRe_struck_24 _ _ _ _ _ _ ?_
  refine ⟨fun z => ?_, fun z => ?_⟩ <;> first | exact absurd rfl z | exact absurd z (by decide) | skip
  obtain ⟨v, hv, rfl⟩ := (vIn_nI (by omega)).mp q1
  have loop : ∀ e k M', k + e = 2 ^ (w_R w).length → FrS QR2 M0 M' → RINV M' w → m_i M' 206 0 = 0 → Ev l G d mRe_struck 33 [.ref 206, .int (nI v), .int (oN (stS w k)), .int (nI k)] [] M' bc bs Φ := by
    intro e
    induction e with
    | zero =>
      intro k M' hk hF hI' t'
      obtain rfl : k = 2 ^ (w_R w).length := by omega
      have hfin : ∀ r, r = strV (stS w (2 ^ (w_R w).length)) v → Φ (.inl (some (.int r))) M' := fun r e => by
        refine h.done2 ((hF0.mono QR.two).tr hF) hI' t' ((okV_y q1).trans ?_)
        rw [tN_nI (by omega), e]
      refine bRe_struck_33 _ _ _ _ _ ⟨hI'.1.c, ?_⟩
      rw [hI'.2.2.1.1, sh1_r hR]
      refine ⟨fun _ => ?_, fun z => absurd (nI_le (Nat.le_refl _) (by omega)) z⟩
      have v0 : nI v = 0 ↔ v = 0 := nI_eq (b := 0) (by omega) (by omega)
      cases hs : stS w (2 ^ (w_R w).length) with
      | none =>
        rw [hs] at hfin
        exact ⟨fun _ => bRe_struck_95 _ _ _ _ _ (bRe_struck_103 _ _ _ _ _ _ (hfin _ rfl)), fun _ => ⟨fun z => absurd rfl z, fun _ => bRe_struck_95 _ _ _ _ _ (bRe_struck_103 _ _ _ _ _ _ (hfin _ rfl))⟩⟩
      | some b =>
        rw [hs] at hfin
        have hb := stS_lt w _ b hs
        refine ⟨fun z => bRe_struck_95 _ _ _ _ _ (bRe_struck_103 _ _ _ _ _ _ (hfin _ ?_)), fun z => ⟨fun _ => CallVC.cps0 (by omega) (ct_ones M' b (by omega) (bRe_struck_103 _ _ _ _ _ _ (hfin _ ?_))), fun z2 => absurd z2 (nI_neg (by omega))⟩⟩
        · show nI b = if v = 0 then nI b else nI (onesN 10 b)
          rw [if_pos (v0.mp z)]
        · show nI (onesN 10 b) = if v = 0 then nI b else nI (onesN 10 b)
          rw [if_neg (fun q => z (v0.mpr q))]
    | succ e ih =>
      intro k M' hk hF hI' t'
      have hnext : ∀ M2 o, FrS QR2 M' M2 → RINV M2 w → m_i M2 206 0 = 0 → o = stS w (k + 1) → Ev l G d mRe_struck 80 [.ref 206, .int (nI v), .int (oN o), .int (nI k)] [] M2 bc bs Φ := fun M2 o hF2 hI2 t2 eo => by
        refine bRe_struck_80 _ _ _ _ _ ?_
        rw [nI_1, eo]
        exact ih (k + 1) M2 (by omega) (hF.tr hF2) hI2 t2
      have es : stS w (k + 1) = stC w (stS w k) k := rfl
      have h62 : (∀ b, stS w k = some b → onesN 10 k < onesN 10 b) → Ev l G d mRe_struck 62 [.ref 206, .int (nI v), .int (oN (stS w k)), .int (nI k)] [] M' bc bs Φ := fun hb => by
        refine bRe_struck_62 _ _ _ _ _ ⟨hI'.1.c, CallVC.cps0 (by omega) ?_⟩
        refine ct_servedWithout M' w hw hI' k (by omega) (by omega) (fun M2 hF2 hI2 t2 => ?_)
        refine bRe_struck_67 _ _ _ _ _ _ ⟨hI2.1.c, ?_⟩
        have hok := (dyW_ok hw (out := k) (pl := none) (pb := 0) (tu := none) (tc := 0) (tw := 0) (wy := fun q => w_F w q 5) (fun p q => by cases q) (fun p q => by cases q) (fun p hp => (hw.2.1 p hp).2.2.2.2.2.1)).1
        have hsv8 : svW w k < 256 := hok.2.2.2.1
        have h2n : 2 ^ w_n w ≤ 256 := Nat.pow_le_pow_right (n := 2) (j := 8) (by omega) n8
        have eq1 : nI (svW w k) = nI (2 ^ w_n w - 1) ↔ svW w k = 2 ^ w_n w - 1 := nI_eq (by omega) (by omega)
        rw [hI2.2.1.1, sh1_n n8, eq1]
        refine ⟨fun z => hnext M2 (stS w k) hF2 hI2 (t2.trans t') ?_, fun z => hnext M2 (some k) hF2 hI2 (t2.trans t') ?_⟩
        · rw [es]
          cases hs : stS w k with
          | none => rw [stC_none, if_neg z]
          | some b => rw [stC_some, if_neg (fun y => z y.2)]
        · rw [es]
          cases hs : stS w k with
          | none => rw [stC_none, if_pos z]
          | some b => rw [stC_some, if_pos ⟨hb b hs, z⟩]
      refine bRe_struck_33 _ _ _ _ _ ⟨hI'.1.c, ?_⟩
      rw [hI'.2.2.1.1, sh1_r hR]
      refine ⟨fun z => absurd z (nI_not_le (by omega) (by omega)), fun _ => ?_⟩
      cases hs : stS w k with
      | none =>
        rw [hs] at h62
        exact ⟨fun _ => h62 (fun b q => by cases q), fun z => absurd rfl z⟩
      | some b =>
        have hb := stS_lt w _ b hs
        refine ⟨fun z => absurd z (nI_neg (by omega)), fun _ => CallVC.cps0 (by omega) (ct_ones M' k (by omega) ?_)⟩
        refine bRe_struck_52 _ _ _ _ _ _ (CallVC.cps0 (by omega) ?_)
        show Ct l G (d - 1) mRe_ones 0 0 [.int (nI b)] M' _
        refine ct_ones M' b (by omega) ?_
        have l1 := onesN_le 10 k
        have l2 := onesN_le 10 b
        refine bRe_struck_56 _ _ _ _ _ _ _ ⟨fun z => ?_, fun z => ?_⟩
        · have := (nI_ltI (by omega) (by omega)).mp z
          rw [hs] at h62
          exact h62 (fun b' q => by cases q; exact this)
        · refine hnext M' (some b) (FrS.rf _ _) hI' t' ?_
          rw [es, hs, stC_some, if_neg (fun y => z ((nI_ltI (by omega) (by omega)).mpr y.1))]
  exact loop (2 ^ (w_R w).length) 0 M0 (by omega) (FrS.rf _ _) hI0 t0
end SS0
