/-! ===== rest and polite once more: exactly when the rows of ends grow ===== -/
def WL (M : Mm) (w : Wd) (len len' : Nat) : Prop := ((¬ m_i M 189 1 = 0 ∧ len < 5 ^ w_n w * w_n w) → len' = 5 ^ w_n w * w_n w) ∧ (¬ (¬ m_i M 189 1 = 0 ∧ len < 5 ^ w_n w * w_n w) → len' = len)
def WN (M : Mm) (w : Wd) (len : Nat) (x : Int32) : Prop := vIn 1 x ∧ w_n w ≤ 5 ∧ ¬ m_i M 189 1 = 0 ∧ len < 5 ^ w_n w * w_n w
def WQ (M : Mm) (w : Wd) (len : Nat) (x : Int32) (len' : Nat) : Prop := (WN M w len x → len' = 5 ^ w_n w * w_n w) ∧ (¬ WN M w len x → len' = len)
def CPostQ (M : Mm) (w : Wd) (len : Nat) (x : Int32) (a : An) (ex : Nat → String) (Φ : OutV → Mm → Prop) : Prop := ∀ M' P A E len', WQ M w len x len' → KR M M' → CINV M' a.2.2 P A E len' → (a.1 = 0 → Φ (.inl (some (.int a.2.1))) M') ∧ (¬ a.1 = 0 → Φ (.inr (ex a.1)) M')
theorem CPostQ.cp {M : Mm} {w : Wd} {len : Nat} {x : Int32} {a : An} {ex : Nat → String} {Φ : OutV → Mm → Prop} (h : CPostQ M w len x a ex Φ) (hN : ¬ WN M w len x) : CPost M len a ex Φ := fun M' P A E hK hI => h M' P A E len ⟨fun n => absurd n hN, fun _ => rfl⟩ hK hI
section SC7Q
variable {l : Launch} {G : Gx} {d : Nat} {bc bs : Nat} {Φ : OutV → Mm → Prop}
theorem ct_wrWork2 (M : Mm) (w : Wd) (hw : WOK w) {P A E len : Nat} (hI : CINV M w P A E len) (hn : w_n w ≤ 5) (hlen : len ≤ 15625) (hnx : 3484 ≤ m_nx M) (bs0 : Nat) (hbs : ¬ m_i M 189 1 = 0 → len < 5 ^ w_n w * w_n w → 5 ^ w_n w * w_n w ≤ bs0) (hd : 6 < d)
    (h : ∀ M' E' len', WL M w len len' → KR M M' → CINV M' w P A E' len' → m_i M' 189 2 = nI (dcN w (5 ^ w_n w) 0) → m_i M' 189 3 = oN (fiN w (5 ^ w_n w) 0) → m_i M' 189 4 = nI (bstN (sbN w) (5 ^ w_n w - 1)) → m_i M' 189 5 = nI (sbN w (bstN (sbN w) (5 ^ w_n w - 1))) → Φ (.inl none) M') : Ct l G d mWr_work 1 bs0 [.ref 189, .ref P, .ref 127, .ref 162] M Φ := by
  obtain ⟨p5, p5'⟩ := p5_le hn
  have hP := hI.1.2.1
  have hA := hI.1.2.2.1
  have s189 : (m_sh M 189).1 = 9 := hI.1.1.2.2.2.2.2.2.2.2.2.2.2.2.2.2.2.2.2.2.2.2.1
  have hS : 5 ^ w_n w * w_n w ≤ 15625 := by
    have := Nat.mul_le_mul p5 hn
    omega
  refine Ct.of rfl (Nat.le_of_ble_eq_true rfl) ?_
  refine bWr_work_0 _ _ _ _ _ ⟨s189, fun z => ⟨hI.pe.1, ?_⟩, fun z => ?_⟩
  rotate_left
  · obtain ⟨-, q2, q3, q4, q5⟩ := hI.2.2.2.2.2.2.1 z
    exact h M E len ⟨fun n => absurd z n.1, fun _ => rfl⟩ (KR.rf M) hI q2 q3 q4 q5
  rw [hI.2.1.1]
  -- the rows, one by one
  have rows : ∀ bc' bs' M1 E1 len1, KR M M1 → CINV M1 w P A E1 len1 → ¬ m_i M1 189 1 = 0 → WL M w len len1 → 5 ^ w_n w * w_n w ≤ len1 → len1 ≤ 15625 → ∀ x6 : Int32, Ev l G d mWr_work 69 [.ref 189, .ref P, .ref 127, .ref 162, .int (nI (w_n w)), .int (nI (5 ^ w_n w)), .int x6] [] M1 bc' bs' Φ := by
    intro bc' bs' M1 E1 len1 hK1 hI1 z1 hcase hle hle2 x6
    have hE1 := hI1.1.2.2.2.1
    obtain ⟨-, -, -, -, -, -, -, -, -, -, ⟨i2, p2, b11⟩, -⟩ := id hI1.1
    refine bWr_work_69 _ _ _ _ _ _ _ _ ⟨b11.1, CallVC.cps0 (by omega) ?_⟩
    refine ct_prepTrial M1 w hI1 (by omega) (fun M2 hF2 hD2 _ q3 q6 => ?_)
    have s2 : (m_sh M2 189).1 = 9 := by rw [hF2.2.2.2.1]; exact hI1.1.1.2.2.2.2.2.2.2.2.2.2.2.2.2.2.2.2.2.2.2.2.1
    refine bWr_work_75 _ _ _ _ _ _ _ _ ⟨s2, ?_⟩
    have hI2 : CINV M2 w P A E1 len1 := by
      obtain ⟨a1, a2, a3, a4, a5, a6, a7, a8, a9, a10⟩ := id hI1
      have hif2 : CIF M2 w A P := a4.ag hP hA (fun a j h1 h2 _ => hF2.1 a j (by omega)) (fun a j h1 h2 => hF2.2.1 a j (by omega)) (fun a _ _ => hF2.2.2.2.1 a)
      exact hI1.fx hw hF2 (fun a j q => by omega) (fun a j q => by omega) hif2 (a5.ag (fun a h1 h2 j => hF2.1 a j (by omega))) (a6.ag hw (hF2.ag (fun a j h1 q => by omega) (fun a j h1 q => by omega)) hif2)
    have hK2 : KR M M2 := hK1.tr (KR.of hF2 (fun a j q => by omega) (fun a j q => by omega))
    have hF3 : FrS (fun a j => a = 189 ∧ j = 4) M2 (m_si M2 189 4 (-1)) := FrS.si ⟨rfl, rfl⟩ _
    have z2 : ¬ m_i M2 189 1 = 0 := by rw [hF2.1 _ _ (by omega)]; exact z1
    have z3 : ¬ m_i (m_si M2 189 4 (-1)) 189 1 = 0 := by rw [m_i_si, if_neg (by omega)]; exact z2
    have y4 : m_i (m_si M2 189 4 (-1)) 189 4 = -1 := by rw [m_i_si, if_pos ⟨rfl, rfl⟩]
    obtain ⟨hI3, hK3⟩ := FrS.nWr hw hI2 hF3 (fun a j q => Or.inl q.1) (fun q => absurd q z3)
    have d3 : DAok (m_si M2 189 4 (-1)) 162 127 P := hD2.of hF3.2.1 hF3.2.2.2.1
    have t3 : m_i (m_si M2 189 4 (-1)) 162 3 = -1 := by rw [m_i_si, if_neg (by omega)]; exact q3
    have t6 : m_i (m_si M2 189 4 (-1)) 162 6 = -1 := by rw [m_i_si, if_neg (by omega)]; exact q6
    have hK23 := hK2.tr hK3
    generalize m_si M2 189 4 (-1) = M3 at *
    clear hF3 hK3 hI2 hK2 z2
    have loop : ∀ e r M', r + e = 5 ^ w_n w → KR M M' → CINV M' w P A E1 len1 → ¬ m_i M' 189 1 = 0 → DAok M' 162 127 P → m_i M' 162 3 = -1 → m_i M' 162 6 = -1 → EW M' E1 w r → ((r = 0 → m_i M' 189 4 = -1) ∧ ∀ k, r = k + 1 → m_i M' 189 4 = nI (bstN (sbN w) k) ∧ m_i M' 189 5 = nI (sbN w (bstN (sbN w) k))) → Ev l G d mWr_work 83 [.ref 189, .ref P, .ref 127, .ref 162, .int (nI (w_n w)), .int (nI (5 ^ w_n w)), .int (nI r)] [] M' bc' bs' Φ := by
      intro e
      induction e with
      | zero =>
        intro r M' hr hK hI' z' d' t3' t6' hEW h4
        obtain rfl : r = 5 ^ w_n w := by omega
        obtain ⟨m, hm⟩ : ∃ m, 5 ^ w_n w = m + 1 := ⟨5 ^ w_n w - 1, by omega⟩
        obtain ⟨e4, e5⟩ := h4.2 m hm
        have hWR : WRs M' E1 len1 := ⟨hI'.1.1.2.2.2.2.2.2.2.2.2.2.2.2.2.2.2.2.2.2.2.2.1, hI'.1.2.2.2.2.2.2.2.2.2.2.2.1, hI'.1.2.2.2.2.2.2.2.2.2.2.2.2⟩
        refine bWr_work_83 _ _ _ _ _ _ _ _ ⟨fun _ => ⟨hWR.1, CallVC.cps0 (by omega) ?_⟩, fun q => absurd (nI_le (Nat.le_refl _) (by omega)) q⟩
        refine ct_findRests M' w hw hn E1 len1 (by omega) hWR hle (by omega) hEW (by omega) (fun M4 hF4 e2 e3 => ?_)
        refine bWr_work_131 _ _ _ _ _ _ _ _ ⟨by rw [hF4.2.2.2.1]; exact hWR.1, ?_⟩
        have hF5 : FrS (fun a j => a = 189 ∧ (j = 1 ∨ j = 2 ∨ j = 3)) M' (m_si M4 189 1 0) := (hF4.mono (fun a j q => by omega)).tr (FrS.si ⟨rfl, by omega⟩ _)
        have k2 : m_i (m_si M4 189 1 0) 189 2 = nI (dcN w (5 ^ w_n w) 0) := by rw [m_i_si, if_neg (by omega)]; exact e2
        have k3 : m_i (m_si M4 189 1 0) 189 3 = oN (fiN w (5 ^ w_n w) 0) := by rw [m_i_si, if_neg (by omega)]; exact e3
        have k4 : m_i (m_si M4 189 1 0) 189 4 = nI (bstN (sbN w) (5 ^ w_n w - 1)) := by rw [hF5.1 _ _ (by omega), e4, hm, Nat.add_sub_cancel]
        have k5 : m_i (m_si M4 189 1 0) 189 5 = nI (sbN w (bstN (sbN w) (5 ^ w_n w - 1))) := by rw [hF5.1 _ _ (by omega), e5, hm, Nat.add_sub_cancel]
        obtain ⟨hI5, hK5⟩ := FrS.nWr hw hI' hF5 (fun a j q => Or.inl q.1) (fun _ => ⟨hn, k2, k3, k4, k5⟩)
        exact h _ E1 len1 hcase (hK.tr hK5) hI5 k2 k3 k4 k5
      | succ e ih =>
        intro r M' hr hK hI' z' d' t3' t6' hEW h4
        have dref : m_r M' 162 2 = 163 := d'.2.2.2.1
        have dsh : m_sh M' 163 = (20, 8) := d'.2.2.2.2.2.2.2.1
        refine bWr_work_83 _ _ _ _ _ _ _ _ ⟨fun q => absurd q (nI_not_le (by omega) (by omega)), fun _ => ⟨d'.1, CallVC.cps0 (by omega) ?_⟩⟩
        rw [dref]
        refine ct_setWays M' 163 (w_n w) r dsh hn (by omega) (fun M4 hF4 hy4 => ?_)
        have d4 : DAok M4 162 127 P := d'.of hF4.2.1 hF4.2.2.2.1
        refine bWr_work_101 _ _ _ _ _ _ _ _ ⟨d4.1, CallVC.cps0 (by omega) ?_⟩
        refine ct_goTrial M' M4 w hw hI' (FrX.of (hF4.mono (fun a j q => by omega))) d4 none 0 none 0 0 (fun q => dg (w_n w) r q) (fun q e => by cases e) (fun q e => by cases e) (fun q _ => by have := dg_lt (w_n w) r q; omega) (by rw [hF4.1 _ _ (by omega)]; exact t3') (fun q e => by cases e) (by rw [hF4.1 _ _ (by omega)]; exact t6') (fun q e => by cases e) hy4 (by omega) (fun M5 hK5 hI5 d5 he5 hF5 => ?_)
        have hWR : WRs M5 E1 len1 := ⟨hI5.1.1.2.2.2.2.2.2.2.2.2.2.2.2.2.2.2.2.2.2.2.2.1, hI5.1.2.2.2.2.2.2.2.2.2.2.2.1, hI5.1.2.2.2.2.2.2.2.2.2.2.2.2⟩
        have g5 : ∀ a j, a = 189 ∨ a = E1 ∨ (a = 162 ∧ (j = 3 ∨ j = 6)) → m_i M5 a j = m_i M' a j := fun a j q => by rw [hF5.1 _ _ (by unfold PG; omega), hF4.1 _ _ (by omega)]
        refine bWr_work_105 _ _ _ _ _ _ _ _ ⟨d5.1, hWR.1, CallVC.cps0 (by omega) ?_⟩
        rw [show m_r M5 162 11 = 165 from d5.2.2.2.2.2.1]
        refine ct_keepEnds M5 w hw hn E1 len1 (by omega) hWR hle (by omega) r (by omega) d5.2.2.2.2.2.2.2.2.2.1 he5 (fun r' hr' p hp => by rw [g5 _ _ (by omega)]; exact hEW r' hr' p hp) ⟨fun q => by rw [g5 _ _ (by omega)]; exact h4.1 q, fun k q => by rw [g5 _ _ (by omega), g5 _ _ (by omega)]; exact h4.2 k q⟩ (by omega) (fun M6 hF6 hEW6 e4 e5 => ?_)
        have z6 : ¬ m_i M6 189 1 = 0 := by rw [hF6.1 _ _ (by omega), g5 _ _ (by omega)]; exact z'
        obtain ⟨hI6, hK6⟩ := FrS.nWr hw hI5 hF6 (fun a j q => by omega) (fun q => absurd q z6)
        refine bWr_work_117 _ _ _ _ _ _ _ _ ?_
        rw [nI_1]
        refine ih (r + 1) M6 (by omega) ((hK.tr hK5).tr hK6) hI6 z6 (d5.of hF6.2.1 hF6.2.2.2.1) (by rw [hF6.1 _ _ (by omega), g5 _ _ (by omega)]; exact t3') (by rw [hF6.1 _ _ (by omega), g5 _ _ (by omega)]; exact t6') hEW6 ⟨fun q => by omega, fun k q => ?_⟩
        obtain rfl : k = r := by omega
        exact ⟨e4, e5⟩
    exact loop (5 ^ w_n w) 0 M3 (by omega) hK23 hI3 z3 d3 t3 t6 (fun r hr => absurd hr (Nat.not_lt_zero r)) ⟨fun _ => y4, fun k q => by omega⟩
  have h45 : ∀ x6 : Int32, Ev l G d mWr_work 45 [.ref 189, .ref P, .ref 127, .ref 162, .int (nI (w_n w)), .int (nI (5 ^ w_n w)), .int x6] [] M 1 bs0 Φ := fun x6 => by
    have rE : m_r M 189 0 = E := hI.1.2.2.2.2.2.2.2.2.2.2.2.1
    have sE : m_sh M E = (20, len) := hI.1.2.2.2.2.2.2.2.2.2.2.2.2
    refine bWr_work_45 _ _ _ _ _ _ _ _ ⟨s189, by rw [rE, sE], ?_⟩
    rw [rE, sE, pk_mul]
    have eq : nI (5 ^ w_n w * w_n w) ≤ Int32.ofNat len ↔ 5 ^ w_n w * w_n w ≤ len := nI_leI (by omega) (by omega)
    rw [eq, nI_clamp (by omega)]
    refine ⟨fun q => rows _ _ M E len (KR.rf M) hI z ⟨fun n => absurd n.2 (by omega), fun _ => rfl⟩ q hlen x6, fun q => ⟨⟨nI_pos (by omega), by omega⟩, ⟨by omega, hbs z (by omega)⟩, by rw [m_sh_al, if_neg (by omega)]; exact s189, ?_⟩⟩
    obtain ⟨hI1, hK1⟩ := hI.alloc hw hnx (5 ^ w_n w * w_n w)
    refine rows _ _ _ (m_nx M) (5 ^ w_n w * w_n w) hK1 hI1 ?_ ⟨fun _ => rfl, fun n => absurd ⟨z, by omega⟩ n⟩ (Nat.le_refl _) hS x6
    rw [m_i_sr, m_i_al, if_neg (by omega)]
    exact z
  have lp : ∀ e i, i + e = w_n w → Ev l G d mWr_work 20 [.ref 189, .ref P, .ref 127, .ref 162, .int (nI (w_n w)), .int (nI (5 ^ i)), .int (nI i)] [] M 1 bs0 Φ := by
    intro e
    induction e with
    | zero =>
      intro i hi
      obtain rfl : i = w_n w := by omega
      exact bWr_work_20 _ _ _ _ _ _ _ _ ⟨fun _ => h45 _, fun q => absurd (nI_le (Nat.le_refl _) (by omega)) q⟩
    | succ e ih =>
      intro i hi
      refine bWr_work_20 _ _ _ _ _ _ _ _ ⟨fun q => absurd q (nI_not_le (by omega) (by omega)), fun _ => ⟨fun q => absurd q (nI_not_le (b := 5) (by omega) (by omega)), fun _ => ?_⟩⟩
      rw [show (5 : Int32) = nI 5 from rfl, pk_mul, ← Nat.pow_succ, nI_1]
      exact ih (i + 1) (by omega)
  exact lp (w_n w) 0 (by omega)
theorem ct_c_rest2 (M : Mm) (w : Wd) (hw : WOK w) {P A E len : Nat} (hI : CINV M w P A E len) (hl : l.stackTraces = false) (hlen : len ≤ 15625) (hnx : 3484 ≤ m_nx M) (bs0 : Nat) (x : Int32) (hbs : WN M w len x → 5 ^ w_n w * w_n w ≤ bs0) (hd : 7 < d) (h : CPostQ M w len x (aRest w x) exS Φ) : Ct l G d mBo_rest 4 (24 + bs0) [.ref 100, .int x] M Φ := by
  have c0 := hI.1.1.1
  refine Ct.of rfl (Nat.le_of_ble_eq_true rfl) ?_
  refine bBo_rest_0 _ _ _ ⟨c0, CallVC.chk 3 (18 + bs0) (by omega) rfl (by omega) (ct_checkWhat M hl 1 x (by omega) (fun q1 => ?_) (fun q1 => (h.cp (fun n => q1 n.1)).fail (KR.rf M) hI (c := 1) (by decide) (okV_n q1)))⟩
  obtain ⟨v, hv, rfl⟩ := (vIn_nI (by omega)).mp q1
  refine bBo_rest_6 _ _ _ ⟨c0, CallVC.chk 2 (12 + bs0) (by omega) rfl (by omega) (ct_checkFew M w hw hI hl (by omega) (fun hn => ?_) (fun hn => (h.cp (fun n => hn n.2.1)).fail (KR.rf M) hI (c := 2) (by decide) ((okV_y q1).trans (if_pos (by omega)))))⟩
  obtain ⟨b1, hP, hA, hE, r4, r5, r6, r7, -⟩ := id hI.1
  have r8 : m_r M 100 8 = 127 := b1.2.2.2.2.2.1
  have r11 : m_r M 100 11 = 162 := b1.2.2.2.2.2.2.2.2.1
  have r12 : m_r M 100 12 = 189 := b1.2.2.2.2.2.2.2.2.2.1
  have s189 : (m_sh M 189).1 = 9 := b1.2.2.2.2.2.2.2.2.2.2.2.2.2.2.2.2.2.2.2.2.1
  refine bBo_rest_10 _ _ _ ⟨c0, by rw [r12]; exact s189, CallVC.cpsE 1 bs0 1 12 (by omega) rfl (by omega) ?_⟩
  rw [r12, r4, r8, r11]
  refine ct_wrWork2 M w hw hI hn hlen hnx bs0 (fun z y => hbs ⟨q1, hn, z, y⟩) (by omega) (fun M1 E1 len1 hc hK1 hI1 k2 k3 k4 k5 => ?_)
  have r12' : m_r M1 100 12 = 189 := hI1.1.1.2.2.2.2.2.2.2.2.2.1
  have s189' : (m_sh M1 189).1 = 9 := hI1.1.1.2.2.2.2.2.2.2.2.2.2.2.2.2.2.2.2.2.2.2.2.1
  have ha : aRest w (nI v) = (0, if v = 0 then nI (dcN w (5 ^ w_n w) 0) else oN (fiN w (5 ^ w_n w) 0), w) := by
    refine (okV_y q1).trans ?_
    rw [if_neg (by omega), tN_nI (by omega)]
  rw [ha] at h
  have hfin : ∀ r, r = (if v = 0 then nI (dcN w (5 ^ w_n w) 0) else oN (fiN w (5 ^ w_n w) 0)) → Φ (.inl (some (.int r))) M1 := fun r e => by rw [e]; exact (h M1 P A E1 len1 ⟨fun n => hc.1 n.2.2, fun n => hc.2 (fun y => n ⟨q1, hn, y⟩)⟩ hK1 hI1).1 rfl
  have v0 : nI v = 0 ↔ v = 0 := nI_eq (b := 0) (by omega) (by omega)
  refine bBo_rest_29 _ _ _ ?_
  rw [r12', k2, k3, v0]
  exact ⟨fun z => ⟨hI1.1.1.1, s189', hfin _ (by rw [if_neg z])⟩, fun z => ⟨hI1.1.1.1, s189', hfin _ (by rw [if_pos z])⟩⟩
theorem ct_c_polite2 (M : Mm) (w : Wd) (hw : WOK w) {P A E len : Nat} (hI : CINV M w P A E len) (hl : l.stackTraces = false) (hlen : len ≤ 15625) (hnx : 3484 ≤ m_nx M) (bs0 : Nat) (x : Int32) (hbs : WN M w len x → 5 ^ w_n w * w_n w ≤ bs0) (hd : 7 < d) (h : CPostQ M w len x (aPolite w x) exS Φ) : Ct l G d mBo_polite 4 (24 + bs0) [.ref 100, .int x] M Φ := by
  have c0 := hI.1.1.1
  refine Ct.of rfl (Nat.le_of_ble_eq_true rfl) ?_
  refine bBo_polite_0 _ _ _ ⟨c0, CallVC.chk 3 (18 + bs0) (by omega) rfl (by omega) (ct_checkWhat M hl 1 x (by omega) (fun q1 => ?_) (fun q1 => (h.cp (fun n => q1 n.1)).fail (KR.rf M) hI (c := 1) (by decide) (okV_n q1)))⟩
  obtain ⟨v, hv, rfl⟩ := (vIn_nI (by omega)).mp q1
  refine bBo_polite_6 _ _ _ ⟨c0, CallVC.chk 2 (12 + bs0) (by omega) rfl (by omega) (ct_checkFew M w hw hI hl (by omega) (fun hn => ?_) (fun hn => (h.cp (fun n => hn n.2.1)).fail (KR.rf M) hI (c := 2) (by decide) ((okV_y q1).trans (if_pos (by omega)))))⟩
  obtain ⟨b1, hP, hA, hE, r4, r5, r6, r7, -⟩ := id hI.1
  have r8 : m_r M 100 8 = 127 := b1.2.2.2.2.2.1
  have r11 : m_r M 100 11 = 162 := b1.2.2.2.2.2.2.2.2.1
  have r12 : m_r M 100 12 = 189 := b1.2.2.2.2.2.2.2.2.2.1
  have s189 : (m_sh M 189).1 = 9 := b1.2.2.2.2.2.2.2.2.2.2.2.2.2.2.2.2.2.2.2.2.1
  refine bBo_polite_10 _ _ _ ⟨c0, by rw [r12]; exact s189, CallVC.cpsE 1 bs0 1 12 (by omega) rfl (by omega) ?_⟩
  rw [r12, r4, r8, r11]
  refine ct_wrWork2 M w hw hI hn hlen hnx bs0 (fun z y => hbs ⟨q1, hn, z, y⟩) (by omega) (fun M1 E1 len1 hc hK1 hI1 k2 k3 k4 k5 => ?_)
  have r12' : m_r M1 100 12 = 189 := hI1.1.1.2.2.2.2.2.2.2.2.2.1
  have s189' : (m_sh M1 189).1 = 9 := hI1.1.1.2.2.2.2.2.2.2.2.2.2.2.2.2.2.2.2.2.2.2.2.1
  have ha : aPolite w (nI v) = (0, if v = 0 then nI (bstN (sbN w) (5 ^ w_n w - 1)) else nI (sbN w (bstN (sbN w) (5 ^ w_n w - 1))), w) := by
    refine (okV_y q1).trans ?_
    rw [if_neg (by omega), tN_nI (by omega)]
  rw [ha] at h
  have hfin : ∀ r, r = (if v = 0 then nI (bstN (sbN w) (5 ^ w_n w - 1)) else nI (sbN w (bstN (sbN w) (5 ^ w_n w - 1)))) → Φ (.inl (some (.int r))) M1 := fun r e => by rw [e]; exact (h M1 P A E1 len1 ⟨fun n => hc.1 n.2.2, fun n => hc.2 (fun y => n ⟨q1, hn, y⟩)⟩ hK1 hI1).1 rfl
  have v0 : nI v = 0 ↔ v = 0 := nI_eq (b := 0) (by omega) (by omega)
  refine bBo_polite_29 _ _ _ ?_
  rw [r12', k4, k5, v0]
  exact ⟨fun z => ⟨hI1.1.1.1, s189', hfin _ (by rw [if_neg z])⟩, fun z => ⟨hI1.1.1.1, s189', hfin _ (by rw [if_pos z])⟩⟩
end SC7Q
