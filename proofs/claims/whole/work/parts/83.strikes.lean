/-! ===== the class: RULES struck ===== -/
theorem svW_lt {w : Wd} (hw : WOK w) (k : Nat) : svW w k < 2 ^ w_n w ∧ svW w k < 256 := by
  have hok := (dyW_ok hw (out := k) (pl := none) (pb := 0) (tu := none) (tc := 0) (tw := 0) (wy := fun q => w_F w q 5) (fun p q => by cases q) (fun p q => by cases q) (fun p hp => (hw.2.1 p hp).2.2.2.2.2.1)).1
  exact ⟨sv_lt hok, hok.2.2.2.1⟩
theorem orW_lt {w : Wd} (hw : WOK w) : ∀ k, orW w k < 2 ^ w_n w
  | 0 => Nat.two_pow_pos _
  | k + 1 => Nat.or_lt_two_pow (orW_lt hw k) (svW_lt hw k).1
theorem or_all {n s : Nat} (h : s < 2 ^ n) : (2 ^ n - 1) ||| s = 2 ^ n - 1 := by
  apply Nat.eq_of_testBit_eq
  intro i
  rw [Nat.testBit_or, Nat.testBit_two_pow_sub_one]
  by_cases z : i < n
  · rw [decide_eq_true z, Bool.true_or]
  · rw [decide_eq_false z, Bool.false_or]
    exact Nat.testBit_lt_two_pow (Nat.lt_of_lt_of_le h (Nat.pow_le_pow_right (by omega) (by omega)))
theorem orW_all {w : Wd} (hw : WOK w) : ∀ k b, stS w k = some b → orW w k = 2 ^ w_n w - 1
  | 0, _, h => by cases h
  | k + 1, b, h => by
    have es : stS w (k + 1) = stC w (stS w k) k := rfl
    rw [es] at h
    show orW w k ||| svW w k = _
    cases hs : stS w k with
    | none =>
      rw [hs, stC_none] at h
      by_cases z : svW w k = 2 ^ w_n w - 1
      · rw [z, Nat.or_comm]; exact or_all (orW_lt hw k)
      · rw [if_neg z] at h; cases h
    | some b' => rw [orW_all hw k b' hs]; exact or_all (svW_lt hw k).1
theorem ICm.of_inv {M : Mm} {I L P n out : Nat} {f : Nat → Nat → Int32} {b : Nat → Nat} {R : List RU} (hR : R.length ≤ 10) (h : IFinv M I L P n f b (nuS R out R.length) (mustF R (nuS R out R.length) f) (worthF R (nuS R out R.length) f)) (h5 : m_i M I 5 = nuS R out R.length 9) : ICm M I R n f := by
  obtain ⟨-, -, -, -, -, -, -, a8, -⟩ := h
  rcases nuS_rule hR (out := out) (k := 9) (Or.inr rfl) R.length (Nat.le_refl _) with q | ⟨r, r1, r2, r3⟩
  · refine Or.inr (Or.inl ⟨h5.trans q, fun g o t b1 b2 b3 => ?_⟩)
    have := a8 g o t b1 b2 b3
    rw [mustF_none q] at this
    exact this
  · refine Or.inr (Or.inr ⟨r, r1, h5.trans r2, fun g o t b1 b2 b3 => ?_⟩)
    have := a8 g o t b1 b2 b3
    rw [mustF_some (by omega) r2] at this
    exact this
theorem ICw.of_inv {M : Mm} {I L P n out : Nat} {f : Nat → Nat → Int32} {b : Nat → Nat} {R : List RU} (hR : R.length ≤ 10) (h : IFinv M I L P n f b (nuS R out R.length) (mustF R (nuS R out R.length) f) (worthF R (nuS R out R.length) f)) (h6 : m_i M I 6 = nuS R out R.length 8) : ICw M I R n f := by
  obtain ⟨-, -, -, -, -, -, -, -, a9⟩ := h
  rcases nuS_rule hR (out := out) (k := 8) (Or.inl rfl) R.length (Nat.le_refl _) with q | ⟨r, r1, r2, r3⟩
  · refine Or.inr (Or.inl ⟨h6.trans q, fun g o t b1 b2 b3 => ?_⟩)
    have := a9 g o t b1 b2 b3
    rw [worthF_none q] at this
    exact this
  · refine Or.inr (Or.inr ⟨r, r1, h6.trans r2, fun g o t b1 b2 b3 => ?_⟩)
    have := a9 g o t b1 b2 b3
    rw [worthF_some (by omega) r2] at this
    exact this
def fewN (o : Option Nat) : Nat := match o with
  | none => 11
  | some b => onesN 10 b
theorem FrS.nSk {M : Mm} {w : Wd} {P A E len : Nat} {X : Nat → Nat → Prop} {M' : Mm} (hw : WOK w) (hI : CINV M w P A E len) (hF : FrS X M M') (hX : ∀ a j, X a j → a = 191) (hS : CSk M' w) : CINV M' w P A E len ∧ KR M M' := by
  obtain ⟨a1, a2, a3, a4, a5, a6, a7, a8, a9, a10⟩ := id hI
  have hP := a1.2.1
  have hA := a1.2.2.1
  have hi : ∀ a j, a ≠ 191 → m_i M' a j = m_i M a j := fun a j n => hF.1 a j (fun q => n (hX a j q))
  have b4 : CIF M' w A P := a4.ag hP hA (fun a j h1 h2 _ => hi a j (by omega)) (fun a j _ _ => hF.2.1 a j) (fun a _ _ => hF.2.2.2.1 a)
  exact ⟨⟨a1.fx (FrX.of (Q := fun _ _ => False) hF) (fun a j q => q.elim), a2.fx (fun a h1 h2 j => hi a j (by omega)), a3.fr (fun a h1 h2 j => hi a j (by omega)), b4, a5.ag (fun a h1 h2 j => hi a j (by omega)), a6.ag hw ⟨fun a q j => hi a j (by omega), fun a _ j => hF.2.1 a j, fun a _ => hF.2.2.2.1 a⟩ b4, a7.ag (fun j => hi _ j (by omega)), hS, a9.ag (hi _ _ (by omega)) (hi _ _ (by omega)) (fun j => hi _ j (by omega)), a10.ag hw (hi _ _ (by omega)) (hi _ _ (by omega)) (fun a h1 h2 j => hi a j (by omega))⟩, KR.of (FrX.of (Q := fun _ _ => False) hF) (fun a j q => by have := hX a j q; omega) (fun a j q => q.elim)⟩
section SC5
variable {l : Launch} {G : Gx} {d : Nat} {bc bs : Nat} {Φ : OutV → Mm → Prop}
theorem ct_strikes (M : Mm) (w : Wd) (hw : WOK w) {P A E len : Nat} (hI : CINV M w P A E len) (hd : 6 < d) (h : ∀ M', KR M M' → CINV M' w P A E len → m_i M' 191 1 = oN (stS w (2 ^ (w_R w).length)) → m_i M' 191 2 = hpV w → Φ (.inl none) M') : Ct l G d mSk_work bc bs [.ref 191, .ref A, .ref P, .ref 131, .ref 162] M Φ := by
  have n8 := hw.1
  have hR := hw.2.2.2.1
  have h2R : 2 ^ (w_R w).length ≤ 1024 := Nat.pow_le_pow_right (n := 2) (j := 10) (by omega) hR
  have hP := hI.1.2.1
  have hA := hI.1.2.2.1
  have s191 : (m_sh M 191).1 = 7 := hI.1.1.2.2.2.2.2.2.2.2.2.2.2.2.2.2.2.2.2.2.2.2.2
  refine Ct.of rfl (Nat.le_of_ble_eq_true rfl) ?_
  refine bSk_work_0 _ _ _ _ _ _ ⟨s191, fun z => ⟨hI.pe.1, hI.2.2.2.1.2.1.1, ?_⟩, fun z => ?_⟩
  rotate_left
  · obtain ⟨q1, q2⟩ := hI.2.2.2.2.2.2.2.1 z
    exact h M (KR.rf M) hI q1 q2
  rw [hI.2.1.1, hI.2.2.1.1, sh1_n n8, sh1_r hR]
  have hF0 : FrS (fun a j => a = 191 ∧ j = 1) M (m_si M 191 1 (-1)) := FrS.si ⟨rfl, rfl⟩ _
  have y0 : m_i (m_si M 191 1 (-1)) 191 0 = m_i M 191 0 := by rw [m_i_si, if_neg (by omega)]
  have y1 : m_i (m_si M 191 1 (-1)) 191 1 = -1 := by rw [m_i_si, if_pos ⟨rfl, rfl⟩]
  obtain ⟨hI0, hK0⟩ := FrS.nSk hw hI hF0 (fun a j q => q.1) (fun q => absurd (y0.symm.trans q) z)
  generalize m_si M 191 1 (-1) = M0 at *
  have loop : ∀ e k (u10 : Value) M', k + e = 2 ^ (w_R w).length → KR M M' → CINV M' w P A E len → ¬ m_i M' 191 0 = 0 → m_i M' 191 1 = oN (stS w k) → Ev l G d mSk_work 41 [.ref 191, .ref A, .ref P, .ref 131, .ref 162, .int (nI (2 ^ w_n w - 1)), .int (nI (2 ^ (w_R w).length)), .int (nI (orW w k)), .int (nI (fewN (stS w k))), .int (nI k), u10] [] M' bc bs Φ := by
    intro e
    induction e with
    | zero =>
      intro k u10 M' hk hK hI' z' e1
      obtain rfl : k = 2 ^ (w_R w).length := by omega
      refine bSk_work_41 _ _ _ _ _ _ _ _ _ _ _ _ ⟨fun _ => ⟨hI'.1.1.2.2.2.2.2.2.2.2.2.2.2.2.2.2.2.2.2.2.2.2.2, ?_⟩, fun q => absurd (nI_le (Nat.le_refl _) (by omega)) q⟩
      have hF1 : FrS (fun a j => a = 191 ∧ (j = 0 ∨ j = 2)) M' (m_si (m_si M' 191 2 (nI (2 ^ w_n w - 1) &&& (nI (orW w (2 ^ (w_R w).length)) ^^^ (-1)))) 191 0 0) := (FrS.si ⟨rfl, by omega⟩ _).tr (FrS.si ⟨rfl, by omega⟩ _)
      have t1 : m_i (m_si (m_si M' 191 2 (nI (2 ^ w_n w - 1) &&& (nI (orW w (2 ^ (w_R w).length)) ^^^ (-1)))) 191 0 0) 191 1 = oN (stS w (2 ^ (w_R w).length)) := by rw [m_i_si, if_neg (by omega), m_i_si, if_neg (by omega)]; exact e1
      have t2 : m_i (m_si (m_si M' 191 2 (nI (2 ^ w_n w - 1) &&& (nI (orW w (2 ^ (w_R w).length)) ^^^ (-1)))) 191 0 0) 191 2 = hpV w := by rw [m_i_si, if_neg (by omega), m_i_si, if_pos ⟨rfl, rfl⟩]; rfl
      obtain ⟨hI1, hK1⟩ := FrS.nSk hw hI' hF1 (fun a j q => q.1) (fun _ => ⟨t1, t2⟩)
      exact h _ (hK.tr hK1) hI1 t1 t2
    | succ e ih =>
      intro k u10 M' hk hK hI' z' e1
      have l1 := onesN_le 10 k
      have hfew : fewN (stS w k) ≤ 11 := by
        unfold fewN
        split
        · omega
        · have := onesN_le 10 ‹_›; omega
      have es : stS w (k + 1) = stC w (stS w k) k := rfl
      have eo : orW w (k + 1) = orW w k ||| svW w k := rfl
      refine bSk_work_41 _ _ _ _ _ _ _ _ _ _ _ _ ⟨fun q => absurd q (nI_not_le (by omega) (by omega)), fun _ => CallVC.cps0 (by omega) (ct_bitCount M' k (by omega) ?_)⟩
      refine bSk_work_53 _ _ _ _ _ _ _ _ _ _ _ _ _ ⟨fun q => ?_, fun q => ⟨hI'.1.2.2.2.2.2.2.2.2.1.1, CallVC.cps0 (by omega) ?_⟩⟩
      · -- passed over
        have q' := (nI_leI (by omega) (by omega)).mp q
        cases hs : stS w k with
        | none =>
          rw [hs] at q'
          have : fewN none = 11 := rfl
          omega
        | some b =>
          rw [hs] at q'
          have hfb : fewN (some b) = onesN 10 b := rfl
          have e2 : stS w (k + 1) = some b := by rw [es, hs, stC_some, if_neg (fun y => by omega)]
          have e3 : orW w (k + 1) = orW w k := by rw [eo, orW_all hw k b hs]; exact or_all (svW_lt hw k).1
          refine bSk_work_112 _ _ _ _ _ _ _ _ _ _ _ _ ?_
          rw [nI_1, ← e3, ← e2]
          exact ih (k + 1) _ M' (by omega) hK hI' z' (by rw [e1, hs, e2])
      · have q' : onesN 10 k < fewN (stS w k) := Nat.lt_of_not_le (fun y => q ((nI_leI (by omega) (by omega)).mpr y))
        obtain ⟨a1, a2, a3, a4, a5, a6, a7, a8, a9, a10⟩ := id hI'
        obtain ⟨b1, -, -, -, r4, r5, r6, r7, b9, -, ⟨i2, p2, b11⟩, b12, b13⟩ := id a1
        refine ct_take M' 131 A P (w_R w) (w_n w) (w_f w) (w_by w) b9 a4.2.1 a3 hw.2.2.2.2.1 hI'.pe a2 (by omega) (by omega) k (by omega) a5.1 a5.2 (by omega) (fun M1 hF1 hif1 q5 q6 => ?_)
        have d1 : DAok M1 162 i2 p2 := b11.ag (fun a h1 h2 j => hF1.2.1 a j (by unfold QT; omega)) (fun a _ _ => hF1.2.2.2.1 a)
        refine bSk_work_70 _ _ _ _ _ _ _ _ _ _ _ _ ⟨d1.1, CallVC.cps0 (by omega) ?_⟩
        refine ct_prepare M1 162 131 P (w_n w) (w_f w) (w_by w) i2 p2 d1 hif1.2.2.1 hif1.2.2.2.1 (by omega) (by omega) (fun M2 hF2 hD2 hw2 t3 t6 t7 => ?_)
        refine bSk_work_77 _ _ _ _ _ _ _ _ _ _ _ _ ⟨hD2.1, CallVC.cps0 (by omega) ?_⟩
        have hif2 := IFinv.ag hif1 (M' := M2) ⟨fun a q j => hF2.1 a j (by omega), fun a q j => hF2.2.1 a j (by omega), fun a q => hF2.2.2.2.1 a⟩ (fun a h1 h2 j => hF2.1 a j (by omega)) (fun a h1 h2 j => hF2.2.1 a j (by omega)) (fun a h1 h2 => hF2.2.2.2.1 a)
        refine ct_goThrough M2 (cW w k none 0 none 0 0 (fun q => w_F w q 5)) (cW_ok hw (fun p q => by cases q) (fun p q => by cases q) (fun p hp => (hw.2.1 p hp).2.2.2.2.2.1)).1 162 131 A P (hI'.din hw (out := k) (Or.inr rfl) hif2 (Or.inr rfl) hD2 t3 (fun p q => by cases q) t6 (fun p q => by cases q)) hw2 (by omega) (fun M3 hF3 hDS3 hB3 hS3 => ?_)
        have hFX : FrX (fun a _ => a = A + 6 ∨ (131 ≤ a ∧ a ≤ 134) ∨ (162 ≤ a ∧ a ≤ 188)) (fun a j => (a = 131 ∧ (j = 1 ∨ j = 2)) ∨ (a = 162 ∧ (j = 0 ∨ j = 1))) M' M3 := ((hF1.mono (fun a j q => by unfold PT at q; omega) (fun a j q => by unfold QT at q; omega)).tr (hF2.mono (fun a j q => by omega) (fun a j q => by omega))).tr (FrX.of (hF3.mono (fun a j q => by unfold PG at q; omega)))
        have hif3 : CIF M3 w A P := a4.ag hP hA (fun a j h1 h2 h3 => hFX.1 a j (by omega)) (fun a j h1 h2 => hFX.2.1 a j (by omega)) (fun a _ _ => hFX.2.2.2.1 a)
        have k5 : m_i M3 131 5 = m_i M1 131 5 := by rw [hF3.1 _ _ (by unfold PG; omega), hF2.1 _ _ (by omega)]
        have k6 : m_i M3 131 6 = m_i M1 131 6 := by rw [hF3.1 _ _ (by unfold PG; omega), hF2.1 _ _ (by omega)]
        have hcpt : CPT M3 w := ⟨ICm.of_inv hR hDS3.1.1.2.1 (k5.trans q5), ICw.of_inv hR hDS3.1.1.2.1 (k6.trans q6)⟩
        have hI3 : CINV M3 w P A E len := hI'.fx hw hFX (fun a j q => by omega) (fun a j q => by omega) hif3 hcpt (a6.ag hw (hFX.ag (fun a j h1 q => by omega) (fun a j h1 q => by omega)) hif3)
        have hK3 : KR M M3 := hK.tr (KR.of hFX (fun a j q => by omega) (fun a j q => by omega))
        have z3 : ¬ m_i M3 191 0 = 0 := by rw [hFX.1 _ _ (by omega)]; exact z'
        have e13 : m_i M3 162 13 = nI (svW w k) := hDS3.1.2.2.2.1
        have e31 : m_i M3 191 1 = oN (stS w k) := by rw [hFX.1 _ _ (by omega)]; exact e1
        obtain ⟨v1, v2⟩ := svW_lt hw k
        have h2n : 2 ^ w_n w ≤ 256 := Nat.pow_le_pow_right (n := 2) (j := 8) (by omega) n8
        have eq1 : nI (svW w k) = nI (2 ^ w_n w - 1) ↔ svW w k = 2 ^ w_n w - 1 := nI_eq (by omega) (by omega)
        refine bSk_work_82 _ _ _ _ _ _ _ _ _ _ _ _ ⟨hDS3.1.1.1.1, ?_⟩
        rw [e13, eq1, nI_or, ← eo]
        refine ⟨fun y => ?_, fun y => ⟨hI3.1.1.2.2.2.2.2.2.2.2.2.2.2.2.2.2.2.2.2.2.2.2.2, ?_⟩⟩
        · have e2 : stS w (k + 1) = stS w k := by
            rw [es]
            cases hs : stS w k with
            | none => rw [stC_none, if_neg y]
            | some b => rw [stC_some, if_neg (fun x => y x.2)]
          refine bSk_work_112 _ _ _ _ _ _ _ _ _ _ _ _ ?_
          rw [nI_1, ← e2]
          exact ih (k + 1) _ M3 (by omega) hK3 hI3 z3 (by rw [e31, e2])
        · have e2 : stS w (k + 1) = some k := by
            rw [es]
            cases hs : stS w k with
            | none => rw [stC_none, if_pos y]
            | some b =>
              rw [hs] at q'
              rw [stC_some, if_pos ⟨q', y⟩]
          have hF4 : FrS (fun a j => a = 191 ∧ j = 1) M3 (m_si M3 191 1 (nI k)) := FrS.si ⟨rfl, rfl⟩ _
          have w0 : m_i (m_si M3 191 1 (nI k)) 191 0 = m_i M3 191 0 := by rw [m_i_si, if_neg (by omega)]
          have w1 : m_i (m_si M3 191 1 (nI k)) 191 1 = nI k := by rw [m_i_si, if_pos ⟨rfl, rfl⟩]
          obtain ⟨hI4, hK4⟩ := FrS.nSk hw hI3 hF4 (fun a j q => q.1) (fun q => absurd (w0.symm.trans q) z3)
          have hfk : fewN (some k) = onesN 10 k := rfl
          refine bSk_work_112 _ _ _ _ _ _ _ _ _ _ _ _ ?_
          rw [nI_1, ← hfk, ← e2]
          exact ih (k + 1) _ _ (by omega) (hK3.tr hK4) hI4 (by rw [w0]; exact z3) (by rw [w1, e2]; rfl)
  exact loop (2 ^ (w_R w).length) 0 _ M0 (by omega) hK0 hI0 (by rw [y0]; exact z) y1
theorem ct_c_struck (M : Mm) (w : Wd) (hw : WOK w) {P A E len : Nat} (hI : CINV M w P A E len) (hl : l.stackTraces = false) (x : Int32) (hd : 7 < d) (h : CPost M len (aStruck w x) exI Φ) : Ct l G d mBo_struck 4 24 [.ref 100, .int x] M Φ := by
  have c0 := hI.1.1.1
  have hR := hw.2.2.2.1
  have h2R : 2 ^ (w_R w).length ≤ 1024 := Nat.pow_le_pow_right (n := 2) (j := 10) (by omega) hR
  refine Ct.of rfl (Nat.le_of_ble_eq_true rfl) ?_
  refine bBo_struck_0 _ _ _ ⟨c0, CallVC.chk 3 18 (by omega) rfl rfl (ct_checkWhat M hl 1 x (by omega) (fun q1 => ?_) (fun q1 => h.fail (KR.rf M) hI (c := 1) (by decide) (okV_n q1)))⟩
  obtain ⟨v, hv, rfl⟩ := (vIn_nI (by omega)).mp q1
  obtain ⟨b1, hP, hA, hE, r4, r5, r6, r7, -⟩ := id hI.1
  have r9 : m_r M 100 9 = 131 := b1.2.2.2.2.2.2.1
  have r11 : m_r M 100 11 = 162 := b1.2.2.2.2.2.2.2.2.1
  have r13 : m_r M 100 13 = 191 := b1.2.2.2.2.2.2.2.2.2.2.1
  have s191 : (m_sh M 191).1 = 7 := b1.2.2.2.2.2.2.2.2.2.2.2.2.2.2.2.2.2.2.2.2.2
  refine bBo_struck_6 _ _ _ ⟨c0, by rw [r13]; exact s191, CallVC.cps0 (by omega) ?_⟩
  rw [r13, r6, r4, r9, r11]
  refine ct_strikes M w hw hI (by omega) (fun M1 hK1 hI1 e1 e2 => ?_)
  have r13' : m_r M1 100 13 = 191 := hI1.1.1.2.2.2.2.2.2.2.2.2.2.1
  have s191' : (m_sh M1 191).1 = 7 := hI1.1.1.2.2.2.2.2.2.2.2.2.2.2.2.2.2.2.2.2.2.2.2.2
  have hfin : ∀ r, r = strV (stS w (2 ^ (w_R w).length)) v → Φ (.inl (some (.int r))) M1 := fun r e => h.done hK1 hI1 ((okV_y q1).trans (by rw [tN_nI (by omega), e]))
  have v0 : nI v = 0 ↔ v = 0 := nI_eq (b := 0) (by omega) (by omega)
  refine bBo_struck_29 _ _ _ ⟨hI1.1.1.1, by rw [r13']; exact s191', ?_⟩
  rw [r13', e1, v0]
  cases hs : stS w (2 ^ (w_R w).length) with
  | none =>
    rw [hs] at hfin
    exact ⟨fun z => absurd rfl z, fun _ => hfin _ rfl⟩
  | some b =>
    rw [hs] at hfin
    have hb := stS_lt w _ b hs
    refine ⟨fun _ => ⟨fun z => CallVC.cps0 (by omega) ?_, fun z => bBo_struck_66 _ _ _ _ (hfin _ ?_)⟩, fun z => absurd z (nI_neg (by omega))⟩
    · show Ct l G (d - 1) mjI_bitCount 0 0 [.int (nI b)] M1 _
      refine ct_bitCount M1 b (by omega) (bBo_struck_66 _ _ _ _ (hfin _ ?_))
      show _ = if v = 0 then nI b else nI (onesN 10 b)
      rw [if_neg z]
    · show _ = if v = 0 then nI b else nI (onesN 10 b)
      rw [if_pos z]; rfl
theorem ct_c_hopeless (M : Mm) (w : Wd) (hw : WOK w) {P A E len : Nat} (hI : CINV M w P A E len) (ex : Nat → String) (hd : 7 < d) (h : CPost M len (aHopeless w) ex Φ) : Ct l G d mBo_hopeless bc bs [.ref 100] M Φ := by
  have c0 := hI.1.1.1
  obtain ⟨b1, hP, hA, hE, r4, r5, r6, r7, -⟩ := id hI.1
  have r9 : m_r M 100 9 = 131 := b1.2.2.2.2.2.2.1
  have r11 : m_r M 100 11 = 162 := b1.2.2.2.2.2.2.2.2.1
  have r13 : m_r M 100 13 = 191 := b1.2.2.2.2.2.2.2.2.2.2.1
  have s191 : (m_sh M 191).1 = 7 := b1.2.2.2.2.2.2.2.2.2.2.2.2.2.2.2.2.2.2.2.2.2
  refine Ct.of rfl (Nat.le_of_ble_eq_true rfl) ?_
  refine bBo_hopeless_0 _ _ ⟨c0, by rw [r13]; exact s191, CallVC.cps0 (by omega) ?_⟩
  rw [r13, r6, r4, r9, r11]
  refine ct_strikes M w hw hI (by omega) (fun M1 hK1 hI1 e1 e2 => ?_)
  have r13' : m_r M1 100 13 = 191 := hI1.1.1.2.2.2.2.2.2.2.2.2.2.1
  have s191' : (m_sh M1 191).1 = 7 := hI1.1.1.2.2.2.2.2.2.2.2.2.2.2.2.2.2.2.2.2.2.2.2.2
  refine bBo_hopeless_23 _ _ ⟨hI1.1.1.1, by rw [r13']; exact s191', ?_⟩
  rw [r13', e2]
  exact h.done hK1 hI1 rfl
end SC5
