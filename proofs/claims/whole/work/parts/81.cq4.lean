/-! ===== the class: DAYS on trial ===== -/
section SC3
variable {l : Launch} {G : Gx} {d : Nat} {bc bs : Nat} {Φ : OutV → Mm → Prop}
theorem ct_goTrial (M M1 : Mm) (w : Wd) (hw : WOK w) {P A E len : Nat} (hI : CINV M w P A E len) (hF1 : FrX (fun a _ => 162 ≤ a ∧ a ≤ 188) (fun a j => a = 162 ∧ (j = 0 ∨ j = 1)) M M1) (hD1 : DAok M1 162 127 P) (pl : Option Nat) (pb : Int32) (tu : Option Nat) (tc : Int32) (tw : Nat) (wy : Nat → Nat) (h1 : ∀ p, pl = some p → p < w_n w) (h2 : ∀ p, tu = some p → p < w_n w ∧ ¬ tc < 0 ∧ tw ≤ 4) (h3 : ∀ p, p < w_n w → wy p ≤ 4) (e3 : m_i M1 162 3 = oN pl) (e4 : ∀ p, pl = some p → m_i M1 162 4 = pb) (e6 : m_i M1 162 6 = oN tu) (e7 : ∀ p, tu = some p → m_i M1 162 7 = tc ∧ m_i M1 162 8 = nI tw) (hwy : ∀ p, p < w_n w → m_i M1 163 p = nI (wy p)) (hd : 5 < d)
    (h : ∀ M2, KR M M2 → CINV M2 w P A E len → DAok M2 162 127 P → (∀ p, p < 8 → m_i M2 165 p = g_eo (dyW w 0 pl pb tu tc tw wy) p) → FrS (PG 162 127 A) M1 M2 → Φ (.inl none) M2) : Ct l G d mDa_goThrough bc bs [.ref 162] M1 Φ := by
  obtain ⟨a1, a2, a3, a4, a5, a6, a7, a8, a9, a10⟩ := id hI
  have hP := a1.2.1
  have hA := a1.2.2.1
  have hif1 : CIF M1 w A P := a4.ag hP hA (fun a j h1 h2 _ => hF1.1 a j (by omega)) (fun a j h1 h2 => hF1.2.1 a j (by omega)) (fun a h1 h2 => hF1.2.2.2.1 a)
  refine ct_goThrough M1 (cW w 0 pl pb tu tc tw wy) (cW_ok hw h1 h2 h3).1 162 127 A P (hI.din hw (out := 0) (Or.inr rfl) hif1 (Or.inl rfl) hD1 e3 e4 e6 e7) hwy hd (fun M2 hF2 hDS2 hB2 hS2 => ?_)
  have hif2 : CIF M2 w A P := hDS2.1.1.2.1
  have hFX : FrX (fun a _ => a = A + 6 ∨ (127 ≤ a ∧ a ≤ 130) ∨ (162 ≤ a ∧ a ≤ 188)) (fun a j => a = 162 ∧ (j = 0 ∨ j = 1)) M M2 := (hF1.mono (fun a j q => by omega) (fun a j q => q)).tr (FrX.of (hF2.mono (fun a j q => by unfold PG at q; omega)))
  exact h M2 (KR.of hFX (fun a j q => by omega) (fun a j q => by omega)) (hI.fx hw hFX (fun a j q => by omega) (fun a j q => by omega) hif2 (a5.ag (fun a h1 h2 j => hFX.1 a j (by omega))) (a6.ag hw (hFX.ag (fun a j h1 q => by omega) (fun a j h1 q => by omega)) hif2)) hDS2.1.1.1 hDS2.1.2.2.1 hF2
theorem ct_prepTrial (M : Mm) (w : Wd) {P A E len : Nat} (hI : CINV M w P A E len) (hd : 0 < d) (h : ∀ M1, FrX (fun a _ => 162 ≤ a ∧ a ≤ 188) (fun a j => a = 162 ∧ (j = 0 ∨ j = 1)) M M1 → DAok M1 162 127 P → (∀ p, p < w_n w → m_i M1 163 p = nI (w_F w p 5)) → m_i M1 162 3 = -1 → m_i M1 162 6 = -1 → Φ (.inl none) M1) : Ct l G d mDa_prepare bc bs [.ref 162, .ref P, .ref 127] M Φ := by
  obtain ⟨b1, hP, hA, hE, r4, r5, r6, r7, b9, -, ⟨i2, p2, b11⟩, b12, b13⟩ := id hI.1
  exact ct_prepare M 162 127 P (w_n w) (w_f w) (w_by w) i2 p2 b11 hI.pe hI.2.1 (by omega) hd (fun M1 hF1 hD1 hw1 q3 q6 q7 => h M1 (hF1.mono (fun a j q => by omega) (fun a j q => q)) hD1 hw1 q3 q6)
theorem ct_endTurning (M : Mm) (w : Wd) (hw : WOK w) {P A E len : Nat} (hI : CINV M w P A E len) (x : Int32) (hx : ¬ x < 0) (p v : Nat) (hp : p < w_n w) (hv : v ≤ 4) (hd : 6 < d) (h : ∀ M', KR M M' → CINV M' w P A E len → Φ (.inl (some (.int (g_eo (dyW w 0 none 0 (some p) x v (fun q => w_F w q 5)) p)))) M') : Ct l G d mBo_endTurning bc bs [.ref 100, .int x, .int (nI p), .int (nI v)] M Φ := by
  have n8 := hw.1
  obtain ⟨b1, hP, hA, hE, r4, r5, r6, r7, b9, -, ⟨i2, p2, b11⟩, b12, b13⟩ := id hI.1
  have c0 := b1.1
  have r8 : m_r M 100 8 = 127 := b1.2.2.2.2.2.1
  have r11 : m_r M 100 11 = 162 := b1.2.2.2.2.2.2.2.2.1
  refine Ct.of rfl (Nat.le_of_ble_eq_true rfl) ?_
  refine bBo_endTurning_0 _ _ _ _ _ ⟨c0, by rw [r11]; exact b11.1, CallVC.cps0 (by omega) ?_⟩
  rw [r11, r4, r8]
  refine ct_prepTrial M w hI (by omega) (fun M1 hF1 hD1 hw1 q3 q6 => ?_)
  have e11 : m_r M1 100 11 = 162 := by rw [hF1.2.1 _ _ (by omega)]; exact r11
  have c1 : (m_sh M1 100).1 = 10 := by rw [hF1.2.2.2.1]; exact c0
  refine bBo_endTurning_15 _ _ _ _ _ ⟨c1, by rw [e11]; exact hD1.1, ?_⟩
  rw [e11]
  refine bBo_endTurning_31 _ _ _ _ _ ⟨c1, by show (m_sh M1 (m_r M1 100 11)).1 = 1; rw [e11]; exact hD1.1, CallVC.cps0 (by omega) ?_⟩
  rw [show m_r (m_si (m_si M1 162 6 (nI p)) 162 7 x) 100 11 = 162 from e11]
  have hF2 : FrS (fun a j => a = 162 ∧ (j = 6 ∨ j = 7 ∨ j = 8)) M1 (m_si (m_si (m_si M1 162 6 (nI p)) 162 7 x) 162 8 (nI v)) := ((FrS.si ⟨rfl, by omega⟩ _).tr (FrS.si ⟨rfl, by omega⟩ _)).tr (FrS.si ⟨rfl, by omega⟩ _)
  have y6 : m_i (m_si (m_si (m_si M1 162 6 (nI p)) 162 7 x) 162 8 (nI v)) 162 6 = nI p := by rw [m_i_si, if_neg (by omega), m_i_si, if_neg (by omega), m_i_si, if_pos ⟨rfl, rfl⟩]
  have y7 : m_i (m_si (m_si (m_si M1 162 6 (nI p)) 162 7 x) 162 8 (nI v)) 162 7 = x := by rw [m_i_si, if_neg (by omega), m_i_si, if_pos ⟨rfl, rfl⟩]
  have y8 : m_i (m_si (m_si (m_si M1 162 6 (nI p)) 162 7 x) 162 8 (nI v)) 162 8 = nI v := by rw [m_i_si, if_pos ⟨rfl, rfl⟩]
  generalize m_si (m_si (m_si M1 162 6 (nI p)) 162 7 x) 162 8 (nI v) = M2 at *
  refine ct_goTrial M M2 w hw hI (hF1.tr (FrX.of (hF2.mono (fun a j q => by omega)))) (hD1.of hF2.2.1 hF2.2.2.2.1) none 0 (some p) x v (fun q => w_F w q 5) (fun q e => by cases e) (fun q e => by cases e; exact ⟨hp, hx, hv⟩) (fun q hq => (hw.2.1 q hq).2.2.2.2.2.1) (by rw [hF2.1 _ _ (by omega)]; exact q3) (fun q e => by cases e) y6 (fun q e => ⟨y7, y8⟩) (fun q hq => by rw [hF2.1 _ _ (by omega)]; exact hw1 q hq) (by omega) (fun M3 hK3 hI3 hD3 he3 hF3 => ?_)
  have e11' : m_r M3 100 11 = 162 := hI3.1.1.2.2.2.2.2.2.2.2.1
  refine bBo_endTurning_46 _ _ _ _ _ ⟨hI3.1.1.1, by rw [e11']; exact hD3.1, by rw [e11', hD3.2.2.2.2.2.1, hD3.2.2.2.2.2.2.2.2.2.1], by rw [e11', hD3.2.2.2.2.2.1, hD3.2.2.2.2.2.2.2.2.2.1]; exact vp_in_nI (by omega) (by omega), ?_⟩
  rw [e11', hD3.2.2.2.2.2.1, nI_clamp (by omega)]
  show Φ (.inl (some (.int (m_i M3 165 p)))) M3
  rw [he3 p (by omega)]
  exact h M3 hK3 hI3
theorem ct_endPlanning (M : Mm) (w : Wd) (hw : WOK w) {P A E len : Nat} (hI : CINV M w P A E len) (p : Nat) (hp : p < w_n w) (bits : Int32) (hd : 6 < d) (h : ∀ M', KR M M' → CINV M' w P A E len → Φ (.inl (some (.int (planV w p bits)))) M') : Ct l G d mBo_endPlanning bc bs [.ref 100, .int (nI p), .int bits] M Φ := by
  have n8 := hw.1
  obtain ⟨b1, hP, hA, hE, r4, r5, r6, r7, b9, -, ⟨i2, p2, b11⟩, b12, b13⟩ := id hI.1
  have c0 := b1.1
  have r8 : m_r M 100 8 = 127 := b1.2.2.2.2.2.1
  have r11 : m_r M 100 11 = 162 := b1.2.2.2.2.2.2.2.2.1
  refine Ct.of rfl (Nat.le_of_ble_eq_true rfl) ?_
  refine bBo_endPlanning_0 _ _ _ _ ⟨c0, by rw [r11]; exact b11.1, CallVC.cps0 (by omega) ?_⟩
  rw [r11, r4, r8]
  refine ct_prepTrial M w hI (by omega) (fun M1 hF1 hD1 hw1 q3 q6 => ?_)
  have e11 : m_r M1 100 11 = 162 := by rw [hF1.2.1 _ _ (by omega)]; exact r11
  have c1 : (m_sh M1 100).1 = 10 := by rw [hF1.2.2.2.1]; exact c0
  refine bBo_endPlanning_15 _ _ _ _ ⟨c1, by rw [e11]; exact hD1.1, ?_⟩
  rw [e11]
  refine bBo_endPlanning_31 _ _ _ _ ⟨c1, by show (m_sh M1 (m_r M1 100 11)).1 = 1; rw [e11]; exact hD1.1, CallVC.cps0 (by omega) ?_⟩
  rw [show m_r (m_si (m_si M1 162 3 (nI p)) 162 4 bits) 100 11 = 162 from e11]
  have hF2 : FrS (fun a j => a = 162 ∧ (j = 3 ∨ j = 4)) M1 (m_si (m_si M1 162 3 (nI p)) 162 4 bits) := (FrS.si ⟨rfl, by omega⟩ _).tr (FrS.si ⟨rfl, by omega⟩ _)
  have y3 : m_i (m_si (m_si M1 162 3 (nI p)) 162 4 bits) 162 3 = nI p := by rw [m_i_si, if_neg (by omega), m_i_si, if_pos ⟨rfl, rfl⟩]
  have y4 : m_i (m_si (m_si M1 162 3 (nI p)) 162 4 bits) 162 4 = bits := by rw [m_i_si, if_pos ⟨rfl, rfl⟩]
  generalize m_si (m_si M1 162 3 (nI p)) 162 4 bits = M2 at *
  refine ct_goTrial M M2 w hw hI (hF1.tr (FrX.of (hF2.mono (fun a j q => by omega)))) (hD1.of hF2.2.1 hF2.2.2.2.1) (some p) bits none 0 0 (fun q => w_F w q 5) (fun q e => by cases e; exact hp) (fun q e => by cases e) (fun q hq => (hw.2.1 q hq).2.2.2.2.2.1) y3 (fun q e => y4) (by rw [hF2.1 _ _ (by omega)]; exact q6) (fun q e => by cases e) (fun q hq => by rw [hF2.1 _ _ (by omega)]; exact hw1 q hq) (by omega) (fun M3 hK3 hI3 hD3 he3 hF3 => ?_)
  have e11' : m_r M3 100 11 = 162 := hI3.1.1.2.2.2.2.2.2.2.2.1
  refine bBo_endPlanning_38 _ _ _ _ ⟨hI3.1.1.1, by rw [e11']; exact hD3.1, by rw [e11', hD3.2.2.2.2.2.1, hD3.2.2.2.2.2.2.2.2.2.1], by rw [e11', hD3.2.2.2.2.2.1, hD3.2.2.2.2.2.2.2.2.2.1]; exact vp_in_nI (by omega) (by omega), ?_⟩
  rw [e11', hD3.2.2.2.2.2.1, nI_clamp (by omega)]
  show Φ (.inl (some (.int (m_i M3 165 p)))) M3
  rw [he3 p (by omega)]
  exact h M3 hK3 hI3
theorem ct_late (M : Mm) (x : Int32) (h : Φ (.inl (some (.int (lateV x)))) M) : Ct l G d mBo_late bc bs [.int x] M Φ := by
  refine Ct.of rfl (Nat.le_of_ble_eq_true rfl) ?_
  refine bBo_late_0 _ _ ⟨fun z => ?_, fun z => ?_⟩
  · unfold lateV at h; rw [if_neg z] at h; exact h
  · unfold lateV at h; rw [if_pos z] at h; exact h
theorem ct_c_again (M : Mm) (w : Wd) (hw : WOK w) {P A E len : Nat} (hI : CINV M w P A E len) (hl : l.stackTraces = false) (x y t : Int32) (hd : 7 < d) (h : CPost M len (aAgain w x y t) exN Φ) : Ct l G d mBo_again 4 24 [.ref 100, .int x, .int y, .int t] M Φ := by
  have c0 := hI.1.1.1
  have n8 := hw.1
  refine Ct.of rfl (Nat.le_of_ble_eq_true rfl) ?_
  refine bBo_again_0 _ _ _ _ _ ⟨c0, CallVC.chk 3 18 (by omega) rfl rfl (ct_checkPerson M w hw hI hl y (by omega) (fun q1 => ?_) (fun q1 => h.fail (KR.rf M) hI (c := 1) (by decide) (okP_n q1)))⟩
  refine bBo_again_5 _ _ _ _ _ ⟨c0, CallVC.chk 2 12 (by omega) rfl rfl (ct_checkWhat M hl 4 t (by omega) (fun q2 => ?_) (fun q2 => h.fail (KR.rf M) hI (c := 2) (by decide) ((okP_y q1).trans (okV_n q2))))⟩
  obtain ⟨p, hp, rfl⟩ := (pIn_nI n8).mp q1
  obtain ⟨v, hv, rfl⟩ := (vIn_nI (by omega)).mp q2
  refine bBo_again_11 _ _ _ _ _ ⟨fun z => ⟨c0, CallVC.cps0 (by omega) ?_⟩, fun z => ⟨hl, by omega, by omega, by omega, h.fail (KR.rf M) hI (c := 2) (by decide) (((okP_y q1).trans (okV_y q2)).trans (if_pos (Int32.not_le.mp z)))⟩⟩
  have hx : ¬ x < 0 := Int32.not_lt.mpr z
  refine ct_endTurning M w hw hI x hx p v hp hv (by omega) (fun M1 hK1 hI1 => ?_)
  refine bBo_again_32 _ _ _ _ _ _ (h.done hK1 hI1 (((okP_y q1).trans (okV_y q2)).trans ?_))
  rw [if_neg hx, tN_nI (by omega), tN_nI (by omega)]
theorem ct_c_plan (M : Mm) (w : Wd) (hw : WOK w) {P A E len : Nat} (hI : CINV M w P A E len) (hl : l.stackTraces = false) (x y : Int32) (hd : 7 < d) (h : CPost M len (aPlan w x y) exN Φ) : Ct l G d mBo_plan 4 24 [.ref 100, .int x, .int y] M Φ := by
  have c0 := hI.1.1.1
  have n8 := hw.1
  refine Ct.of rfl (Nat.le_of_ble_eq_true rfl) ?_
  refine bBo_plan_0 _ _ _ _ ⟨c0, CallVC.chk 3 18 (by omega) rfl rfl (ct_checkPerson M w hw hI hl x (by omega) (fun q1 => ?_) (fun q1 => h.fail (KR.rf M) hI (c := 1) (by decide) (okP_n q1)))⟩
  refine bBo_plan_5 _ _ _ _ ⟨c0, CallVC.chk 2 12 (by omega) rfl rfl (ct_checkWhat M hl 1023 y (by omega) (fun q2 => ?_) (fun q2 => h.fail (KR.rf M) hI (c := 2) (by decide) ((okP_y q1).trans (okV_n q2))))⟩
  obtain ⟨p, hp, rfl⟩ := (pIn_nI n8).mp q1
  refine bBo_plan_13 _ _ _ _ ⟨c0, CallVC.cps0 (by omega) (ct_endPlanning M w hw hI p hp y (by omega) (fun M1 hK1 hI1 => ?_))⟩
  exact bBo_plan_19 _ _ _ _ _ (h.done hK1 hI1 (((okP_y q1).trans (okV_y q2)).trans (by rw [tN_nI (by omega)])))
theorem ct_c_gain (M : Mm) (w : Wd) (hw : WOK w) {P A E len : Nat} (hI : CINV M w P A E len) (hl : l.stackTraces = false) (x y : Int32) (hd : 7 < d) (h : CPost M len (aGain w x y) exN Φ) : Ct l G d mBo_gain 4 24 [.ref 100, .int x, .int y] M Φ := by
  have c0 := hI.1.1.1
  have n8 := hw.1
  refine Ct.of rfl (Nat.le_of_ble_eq_true rfl) ?_
  refine bBo_gain_0 _ _ _ _ ⟨c0, CallVC.chk 3 18 (by omega) rfl rfl (ct_checkPerson M w hw hI hl x (by omega) (fun q1 => ?_) (fun q1 => h.fail (KR.rf M) hI (c := 1) (by decide) (okP_n q1)))⟩
  refine bBo_gain_5 _ _ _ _ ⟨c0, CallVC.chk 2 12 (by omega) rfl rfl (ct_checkWhat M hl 4 y (by omega) (fun q2 => ?_) (fun q2 => h.fail (KR.rf M) hI (c := 2) (by decide) ((okP_y q1).trans (okV_n q2))))⟩
  obtain ⟨p, hp, rfl⟩ := (pIn_nI n8).mp q1
  obtain ⟨v, hv, rfl⟩ := (vIn_nI (by omega)).mp q2
  refine bBo_gain_11 _ _ _ _ ⟨c0, CallVC.cps0 (by omega) (ct_dayAsItIs M w hw hI (by omega) (fun M1 hK1 hI1 hD1 hB1 => ?_))⟩
  obtain ⟨d0, d1, d2, d3, d9, d11, d12, s1, s2, s3, pb, dk⟩ := hD1.1.1.1
  refine bBo_gain_15 _ _ _ _ _ ⟨d0, by rw [d11, s3], by rw [d11, s3]; exact vp_in_nI (by omega) (by omega), CallVC.cps0 (by omega) ?_⟩
  rw [d11, nI_clamp (by omega), hD1.1.2.2.1 p (by omega)]
  refine ct_late M1 _ ?_
  refine bBo_gain_23 _ _ _ _ _ ⟨hI1.1.1.1, CallVC.cps0 (by omega) (ct_endTurning M1 w hw hI1 0 (by decide) p v hp hv (by omega) (fun M2 hK2 hI2 => ?_))⟩
  refine bBo_gain_30 _ _ _ _ _ _ (CallVC.cps0 (by omega) (ct_late M2 _ ?_))
  exact bBo_gain_33 _ _ _ _ _ _ (h.done (hK1.tr hK2) hI2 (((okP_y q1).trans (okV_y q2)).trans (by rw [tN_nI (by omega), tN_nI (by omega)])))
theorem sh1_10 {n : Nat} (h : n ≤ 10) : (1 : Int32) <<< (nI n &&& 31) - 1 = nI (2 ^ n - 1) := by
  have h1 : ∀ n, n < 11 → (1 : Int32) <<< (nI n &&& 31) - 1 = nI (2 ^ n - 1) := by decide +kernel
  exact h1 n (by omega)
theorem ct_c_best (M : Mm) (w : Wd) (hw : WOK w) {P A E len : Nat} (hI : CINV M w P A E len) (hl : l.stackTraces = false) (x y : Int32) (hd : 7 < d) (h : CPost M len (aBest w x y) exN Φ) : Ct l G d mBo_best 4 24 [.ref 100, .int x, .int y] M Φ := by
  have c0 := hI.1.1.1
  have n8 := hw.1
  refine Ct.of rfl (Nat.le_of_ble_eq_true rfl) ?_
  refine bBo_best_0 _ _ _ _ ⟨c0, CallVC.chk 3 18 (by omega) rfl rfl (ct_checkPerson M w hw hI hl x (by omega) (fun q1 => ?_) (fun q1 => h.fail (KR.rf M) hI (c := 1) (by decide) (okP_n q1)))⟩
  refine bBo_best_5 _ _ _ _ _ _ _ _ _ ⟨c0, CallVC.chk 2 12 (by omega) rfl rfl (ct_checkWhat M hl 1 y (by omega) (fun q2 => ?_) (fun q2 => h.fail (KR.rf M) hI (c := 2) (by decide) ((okP_y q1).trans (okV_n q2))))⟩
  obtain ⟨p, hp, rfl⟩ := (pIn_nI n8).mp q1
  obtain ⟨v, hv, rfl⟩ := (vIn_nI (by omega)).mp q2
  have ha : aBest w (nI p) (nI v) = (0, if v = 0 then nI (2 ^ bestT w p - 1) else planV w p (nI (2 ^ bestT w p - 1)), w) := by
    refine ((okP_y q1).trans (okV_y q2)).trans ?_
    rw [tN_nI (by omega), tN_nI (by omega)]
  refine bBo_best_11 _ _ _ _ _ _ _ _ _ ?_
  have loop : ∀ e t (x3 x4 : Int32) (u6 u7 : Value) M', t + e = 11 → KR M M' → CINV M' w P A E len → (t = 0 → x3 = 0 ∧ x4 = -1) → (∀ k, t = k + 1 → x3 = nI (2 ^ bstN (fun t => rvN w p (2 ^ t - 1)) k - 1) ∧ x4 = planV w p (nI (2 ^ bstN (fun t => rvN w p (2 ^ t - 1)) k - 1))) → Ev l G d mBo_best 19 [.ref 100, .int (nI p), .int (nI v), .int x3, .int x4, .int (nI t), u6, u7] [] M' 2 12 Φ := by
    intro e
    induction e with
    | zero =>
      intro t x3 x4 u6 u7 M' ht hK hI' h0 h1
      obtain ⟨e3, e4⟩ := h1 10 (by omega)
      have v0 : nI v = 0 ↔ v = 0 := nI_eq (b := 0) (by omega) (by omega)
      refine bBo_best_19 _ _ _ _ _ _ _ _ _ ⟨fun _ => ⟨fun z => h.done hK hI' ?_, fun z => h.done hK hI' ?_⟩, fun z => absurd (nI_lt (a := 10) (by omega) (by omega)) z⟩
      · rw [ha, if_neg (fun q => z (v0.mpr q)), e4]; rfl
      · rw [ha, if_pos (v0.mp z), e3]; rfl
    | succ e ih =>
      intro t x3 x4 u6 u7 M' ht hK hI' h0 h1
      refine bBo_best_19 _ _ _ _ _ _ _ _ _ ⟨fun z => absurd z (nI_nlt (b := t) (a := 10) (by omega) (by omega)), fun _ => ⟨hI'.1.1.1, ?_⟩⟩
      rw [sh1_10 (by omega)]
      refine CallVC.cps0 (by omega) (ct_endPlanning M' w hw hI' p hp (nI (2 ^ t - 1)) (by omega) (fun M2 hK2 hI2 => ?_))
      obtain ⟨r1, r2, r3⟩ := rv_sp hw hp (2 ^ t - 1)
      refine bBo_best_41 _ _ _ _ _ _ _ _ _ _ (CallVC.cps0 (by omega) (ct_late M2 _ ?_))
      refine bBo_best_48 _ _ _ _ _ _ _ _ _ _ (CallVC.cps0 (by omega) (ct_late M2 _ ?_))
      rw [r1]
      cases t with
      | zero =>
        obtain ⟨e3, e4⟩ := h0 rfl
        subst e3 e4
        refine bBo_best_53 _ _ _ _ _ _ _ _ _ _ _ ⟨fun z => ?_, fun z => ?_⟩
        · have : rvN w p (2 ^ 0 - 1) = 9999 := by
            have := (nI_leI (a := 9999) (by omega) (by omega)).mp z
            omega
          refine bBo_best_63 _ _ _ _ _ _ _ _ _ ?_
          rw [nI_1]
          refine ih 1 _ _ _ _ M2 (by omega) (hK.tr hK2) hI2 (fun q => by omega) (fun k ek => ?_)
          obtain rfl : k = 0 := by omega
          exact ⟨rfl, (r3.mp this).symm⟩
        · refine bBo_best_63 _ _ _ _ _ _ _ _ _ ?_
          rw [nI_1]
          refine ih 1 _ _ _ _ M2 (by omega) (hK.tr hK2) hI2 (fun q => by omega) (fun k ek => ?_)
          obtain rfl : k = 0 := by omega
          exact ⟨rfl, rfl⟩
      | succ j =>
        obtain ⟨e3, e4⟩ := h1 j rfl
        obtain ⟨s1, s2, s3⟩ := rv_sp hw hp (2 ^ bstN (fun t => rvN w p (2 ^ t - 1)) j - 1)
        have hs : bstN (fun t => rvN w p (2 ^ t - 1)) (j + 1) = if rvN w p (2 ^ (j + 1) - 1) < rvN w p (2 ^ bstN (fun t => rvN w p (2 ^ t - 1)) j - 1) then j + 1 else bstN (fun t => rvN w p (2 ^ t - 1)) j := rfl
        rw [e4, s1]
        refine bBo_best_53 _ _ _ _ _ _ _ _ _ _ _ ⟨fun z => ?_, fun z => ?_⟩
        · refine bBo_best_63 _ _ _ _ _ _ _ _ _ ?_
          rw [nI_1]
          refine ih (j + 1 + 1) _ _ _ _ M2 (by omega) (hK.tr hK2) hI2 (fun q => by omega) (fun k ek => ?_)
          obtain rfl : k = j + 1 := by omega
          have := (nI_leI (by omega) (by omega)).mp z
          rw [hs, if_neg (by omega)]
          exact ⟨e3, rfl⟩
        · refine bBo_best_63 _ _ _ _ _ _ _ _ _ ?_
          rw [nI_1]
          refine ih (j + 1 + 1) _ _ _ _ M2 (by omega) (hK.tr hK2) hI2 (fun q => by omega) (fun k ek => ?_)
          obtain rfl : k = j + 1 := by omega
          have : rvN w p (2 ^ (j + 1) - 1) < rvN w p (2 ^ bstN (fun t => rvN w p (2 ^ t - 1)) j - 1) := Nat.lt_of_not_le (fun q => z ((nI_leI (by omega) (by omega)).mpr q))
          rw [hs, if_pos this]
          exact ⟨rfl, rfl⟩
  exact loop 11 0 _ _ _ _ M (by omega) (KR.rf M) hI (fun _ => ⟨rfl, rfl⟩) (fun k hk => by omega)
end SC3
