/-! ===== the class: images ===== -/
section SC8
variable {l : Launch} {G : Gx} {d : Nat} {bc bs : Nat} {Φ : OutV → Mm → Prop}
theorem ct_imTake (M : Mm) (C P n : Nat) (f : Nat → Nat → Int32) (b : Nat → Nat) (hC : IMsh M C) (hE : PEok M P) (hR : PErep M P n f b) (hPC : P + 2 < C) (hCC : 192 < C) (s192 : m_sh M 192 = (20, 8)) (x : Int32) (hd : 1 ≤ d) (h : ∀ M', FrS (fun a _ => C ≤ a ∧ a ≤ C + 3) M M' → (∀ p, p < n → m_i M' (C + 1) p = f p 5 ∧ m_i M' (C + 2) p = f p 6) → (∀ j, j < 8 → m_i M' (C + 3) j = m_i M 192 j) → m_i M' C 3 = x → Φ (.inl none) M') : Ct l G d mIm_take bc bs [.ref C, .ref P, .ref 192, .int x] M Φ := by
  obtain ⟨c0, c1, c2, c3, s1, s2, s3⟩ := hC
  have n8 := hR.2.1
  refine Ct.of rfl (Nat.le_of_ble_eq_true rfl) ?_
  refine bIm_take_0 _ _ _ _ _ ?_
  have loop : ∀ e p M', p + e = n → FrS (fun a _ => a = C + 1 ∨ a = C + 2) M M' → (∀ q, q < p → m_i M' (C + 1) q = f q 5 ∧ m_i M' (C + 2) q = f q 6) → Ev l G d mIm_take 3 [.ref C, .ref P, .ref 192, .int x, .int (nI p)] [] M' bc bs Φ := by
    intro e
    induction e with
    | zero =>
      intro p M' hp hF hq
      have e2 : m_i M' P 2 = nI n := by rw [hF.1 _ _ (by omega)]; exact hR.1
      have r3 : m_r M' C 2 = C + 3 := by rw [hF.2.1]; exact c3
      refine bIm_take_3 _ _ _ _ _ _ ⟨by rw [hF.2.2.2.1]; exact hE.1, fun _ => ⟨by rw [hF.2.2.2.1]; exact c0, by rw [hF.2.2.2.1, s192], by rw [r3, hF.2.2.2.1, s3], ⟨⟨by decide, by decide, by decide⟩, by rw [hF.2.2.2.1, s192]; decide, by rw [r3, hF.2.2.2.1, s3]; decide, hd⟩, ?_⟩, fun z => absurd (by rw [e2]; exact nI_le (by omega) (by omega)) z⟩
      rw [r3]
      show Φ (.inl none) (m_si (m_cpy M' 192 (C + 3) 0 0 8) C 3 x)
      rw [m_cpy8]
      refine h _ (((hF.mono (fun a j q => by omega)).tr (FrS.row (fun j => by omega) _)).tr (FrS.si (by omega) _)) (fun q hq2 => ?_) (fun j hj => ?_) (by rw [m_i_si, if_pos ⟨rfl, rfl⟩])
      · rw [m_i_si, if_neg (by omega), m_i_row, if_neg (by omega), m_i_si, if_neg (by omega), m_i_row, if_neg (by omega)]
        exact hq q (by omega)
      · rw [m_i_si, if_neg (by omega), m_i_rowS, if_pos hj, hF.1 _ _ (by omega)]
    | succ e ih =>
      intro p M' hp hF hq
      have e2 : m_i M' P 2 = nI n := by rw [hF.1 _ _ (by omega)]; exact hR.1
      have hE' : PEok M' P := hE.of hF.2.1 hF.2.2.2.1
      have r1 : m_r M' C 0 = C + 1 := by rw [hF.2.1]; exact c1
      have r2 : m_r M' C 1 = C + 2 := by rw [hF.2.1]; exact c2
      refine bIm_take_3 _ _ _ _ _ _ ⟨hE'.1, fun z => absurd z (by rw [e2]; exact nI_not_le (by omega) (by omega)), fun _ => ⟨by rw [hF.2.2.2.1]; exact c0, CallVC.cps0 (by omega) ?_⟩⟩
      refine ct_fact M' P p 5 hE' (by omega) (by omega) ?_
      rw [hF.1 _ _ (by omega), hR.2.2.1 p 5 (by omega) (by omega), r1]
      refine bIm_take_25 _ _ _ _ _ _ _ _ _ ⟨by rw [hF.2.2.2.1, s1], by rw [hF.2.2.2.1, s1]; exact vp_in_nI (by omega) (by omega), by rw [hF.2.2.2.1]; exact c0, hE'.1, CallVC.cps0 (by omega) ?_⟩
      rw [nI_clamp (by omega), r2]
      refine ct_fact _ P p 6 hE' (by omega) (by omega) ?_
      rw [m_i_si, if_neg (by omega), hF.1 _ _ (by omega), hR.2.2.1 p 6 (by omega) (by omega)]
      refine bIm_take_40 _ _ _ _ _ _ _ _ _ ⟨by rw [m_sh_si, hF.2.2.2.1, s2], by rw [m_sh_si, hF.2.2.2.1, s2]; exact vp_in_nI (by omega) (by omega), ?_⟩
      rw [nI_clamp (by omega), nI_1]
      refine ih (p + 1) _ (by omega) ((hF.tr (FrS.si (Or.inl rfl) _)).tr (FrS.si (Or.inr rfl) _)) (fun q hq2 => ?_)
      by_cases z : q = p
      · subst z
        exact ⟨by rw [m_i_si, if_neg (by omega), m_i_si, if_pos ⟨rfl, rfl⟩], by rw [m_i_si, if_pos ⟨rfl, rfl⟩]⟩
      · have := hq q (by omega)
        exact ⟨by rw [m_i_si, if_neg (by omega), m_i_si, if_neg (by omega)]; exact this.1, by rw [m_i_si, if_neg (by omega), m_i_si, if_neg (by omega)]; exact this.2⟩
  exact loop n 0 M (by omega) (FrS.rf _ _) (fun q hq => absurd hq (Nat.not_lt_zero q))
theorem ct_imPut (M : Mm) (C P n : Nat) (ways untils : Nat → Int32) (hC : IMsh M C) (hE : PEok M P) (hn : m_i M P 2 = nI n) (n8 : n ≤ 8) (hPC : P + 2 < 192) (hCC : 192 < C) (s192 : m_sh M 192 = (20, 8)) (h1 : ∀ p, p < n → m_i M (C + 1) p = ways p ∧ m_i M (C + 2) p = untils p) (hd : 1 ≤ d) (h : ∀ M', FrS (fun a _ => a = P + 1 ∨ a = 192) M M' → (∀ p k, p < n → k < 8 → m_i M' (P + 1) (p * 8 + k) = if k = 5 then ways p else if k = 6 then untils p else m_i M (P + 1) (p * 8 + k)) → (∀ j, j < 8 → m_i M' 192 j = m_i M (C + 3) j) → Φ (.inl (some (.int (m_i M C 3)))) M') : Ct l G d mIm_putBack bc bs [.ref C, .ref P, .ref 192] M Φ := by
  obtain ⟨c0, c1, c2, c3, s1, s2, s3⟩ := hC
  refine Ct.of rfl (Nat.le_of_ble_eq_true rfl) ?_
  refine bIm_putBack_0 _ _ _ _ ?_
  have loop : ∀ e p M', p + e = n → FrS (fun a _ => a = P + 1) M M' → (∀ q k, q < 8 → k < 8 → m_i M' (P + 1) (q * 8 + k) = if q < p ∧ k = 5 then ways q else if q < p ∧ k = 6 then untils q else m_i M (P + 1) (q * 8 + k)) → Ev l G d mIm_putBack 2 [.ref C, .ref P, .ref 192, .int (nI p)] [] M' bc bs Φ := by
    intro e
    induction e with
    | zero =>
      intro p M' hp hF hq
      have e2 : m_i M' P 2 = nI n := by rw [hF.1 _ _ (by omega)]; exact hn
      have r3 : m_r M' C 2 = C + 3 := by rw [hF.2.1]; exact c3
      refine bIm_putBack_2 _ _ _ _ _ ⟨by rw [hF.2.2.2.1]; exact hE.1, fun _ => ⟨by rw [hF.2.2.2.1]; exact c0, by rw [r3, hF.2.2.2.1, s3], by rw [hF.2.2.2.1, s192], ⟨⟨by decide, by decide, by decide⟩, by rw [r3, hF.2.2.2.1, s3]; decide, by rw [hF.2.2.2.1, s192]; decide, hd⟩, ?_⟩, fun z => absurd (by rw [e2]; exact nI_le (by omega) (by omega)) z⟩
      rw [r3]
      show Φ (.inl (some (.int (m_i (m_cpy M' (C + 3) 192 0 0 8) C 3)))) (m_cpy M' (C + 3) 192 0 0 8)
      rw [m_cpy8, m_i_row, if_neg (by omega), hF.1 _ _ (by omega)]
      refine h _ ((hF.mono (fun a j q => Or.inl q)).tr (FrS.row (fun j => Or.inr rfl) _)) (fun q k hq2 hk => ?_) (fun j hj => ?_)
      · rw [m_i_row, if_neg (by omega), hq q k (by omega) hk]
        have hqp : q < p := by omega
        by_cases k5 : k = 5
        · rw [if_pos ⟨hqp, k5⟩, if_pos k5]
        · rw [if_neg (fun y => k5 y.2), if_neg k5]
          by_cases k6 : k = 6
          · rw [if_pos ⟨hqp, k6⟩, if_pos k6]
          · rw [if_neg (fun y => k6 y.2), if_neg k6]
      · rw [m_i_rowS, if_pos hj, hF.1 _ _ (by omega)]
    | succ e ih =>
      intro p M' hp hF hq
      have e2 : m_i M' P 2 = nI n := by rw [hF.1 _ _ (by omega)]; exact hn
      have hE' : PEok M' P := hE.of hF.2.1 hF.2.2.2.1
      have r1 : m_r M' C 0 = C + 1 := by rw [hF.2.1]; exact c1
      have r2 : m_r M' C 1 = C + 2 := by rw [hF.2.1]; exact c2
      obtain ⟨w1, w2⟩ := h1 p (by omega)
      refine bIm_putBack_2 _ _ _ _ _ ⟨hE'.1, fun z => absurd z (by rw [e2]; exact nI_not_le (by omega) (by omega)), fun _ => ⟨by rw [hF.2.2.2.1]; exact c0, by rw [r1, hF.2.2.2.1, s1], by rw [r1, hF.2.2.2.1, s1]; exact vp_in_nI (by omega) (by omega), CallVC.cps0 (by omega) ?_⟩⟩
      rw [r1, nI_clamp (by omega), hF.1 _ _ (by omega), w1]
      refine ct_setFact M' P p 5 _ hE' (by omega) (by omega) ?_
      refine bIm_putBack_22 _ _ _ _ _ ⟨by rw [m_sh_si, hF.2.2.2.1]; exact c0, by rw [m_r_si, r2, m_sh_si, hF.2.2.2.1, s2], by rw [m_r_si, r2, m_sh_si, hF.2.2.2.1, s2]; exact vp_in_nI (by omega) (by omega), hE'.1, CallVC.cps0 (by omega) ?_⟩
      rw [m_r_si, r2, nI_clamp (by omega), m_i_si, if_neg (by omega), hF.1 _ _ (by omega), w2]
      refine ct_setFact _ P p 6 _ hE' (by omega) (by omega) ?_
      refine bIm_putBack_35 _ _ _ _ _ ?_
      rw [nI_1]
      refine ih (p + 1) _ (by omega) ((hF.tr (FrS.si (P := fun a _ => a = P + 1) rfl _)).tr (FrS.si (P := fun a _ => a = P + 1) rfl _)) (fun q k hq8 hk => ?_)
      rw [m_i_si]
      by_cases z6 : q = p ∧ k = 6
      · rw [if_pos ⟨rfl, by rw [z6.1, z6.2]⟩, if_neg (show ¬ (q < p + 1 ∧ k = 5) by omega), if_pos (show q < p + 1 ∧ k = 6 by omega), z6.1]
      · rw [if_neg (by omega), m_i_si]
        by_cases z5 : q = p ∧ k = 5
        · rw [if_pos ⟨rfl, by rw [z5.1, z5.2]⟩, if_pos (show q < p + 1 ∧ k = 5 by omega), z5.1]
        · rw [if_neg (by omega), hq q k hq8 hk]
          by_cases k5 : q < p ∧ k = 5
          · rw [if_pos k5, if_pos (show q < p + 1 ∧ k = 5 by omega)]
          · rw [if_neg k5, if_neg (show ¬ (q < p + 1 ∧ k = 5) by omega)]
            by_cases k6 : q < p ∧ k = 6
            · rw [if_pos k6, if_pos (show q < p + 1 ∧ k = 6 by omega)]
            · rw [if_neg k6, if_neg (show ¬ (q < p + 1 ∧ k = 6) by omega)]
  refine loop n 0 M (by omega) (FrS.rf _ _) (fun q k h1 h2 => ?_)
  rw [if_neg (fun y => absurd y.1 (Nat.not_lt_zero q)), if_neg (fun y => absurd y.1 (Nat.not_lt_zero q))]
theorem ct_c_image (M : Mm) (w : Wd) (hw : WOK w) {P A E len : Nat} (hI : CINV M w P A E len) (ex : Nat → String) (hd : 2 < d) (h : CPost M len (aImage w) ex Φ) : Ct l G d mBo_image bc bs [.ref 100] M Φ := by
  have c0 := hI.1.1.1
  have n8 := hw.1
  have hic := hw.2.2.2.2.2.2.2.2.1
  obtain ⟨b1, hP, hA, hE, r4, r5, r6, r7, -⟩ := id hI.1
  have r14 : m_r M 100 14 = 192 := b1.2.2.2.2.2.2.2.2.2.2.2.1
  have s192 : m_sh M 192 = (20, 8) := b1.2.2.2.2.2.2.2.2.2.2.2.2.1
  have r16 : m_r M 100 16 = 193 := b1.2.2.2.2.2.2.2.2.2.2.2.2.2.1
  have s193 : m_sh M 193 = (31, 3) := b1.2.2.2.2.2.2.2.2.2.2.2.2.2.2.1
  have him := b1.2.2.2.2.2.2.2.2.2.2.2.2.2.2.2.1
  obtain ⟨⟨e15, er⟩, e17, ek⟩ := hI.2.2.2.2.2.2.2.2.2
  have e3 : nI (w_ic w) < 3 ↔ w_ic w < 3 := nI_ltI (b := 3) (by omega) (by omega)
  refine Ct.of rfl (Nat.le_of_ble_eq_true rfl) ?_
  refine bBo_image_0 _ _ ⟨c0, ?_⟩
  rw [e17, e3, r16, s193, nI_clamp (by omega), r4, r14, e15]
  refine ⟨fun z => ?_, fun z => h.done (KR.rf M) hI (if_pos (by omega))⟩
  obtain ⟨i1, i2⟩ := him (w_ic w) z
  rw [i1]
  refine ⟨rfl, vp_in_nI z (by omega), i2.1, CallVC.cps0 (by omega) ?_⟩
  refine ct_imTake M (194 + 4 * w_ic w) P (w_n w) (w_f w) (w_by w) i2 hI.pe hI.2.1 (by omega) (by omega) s192 _ (by omega) (fun M1 hF1 k1 k2 k3 => ?_)
  have g17 : m_i M1 100 17 = nI (w_ic w) := by rw [hF1.1 _ _ (by omega)]; exact e17
  refine bBo_image_34 _ _ ⟨by rw [hF1.2.2.2.1]; exact c0, ?_⟩
  rw [g17, nI_1, m_i_si, if_pos ⟨rfl, rfl⟩]
  have ha : aImage w = (0, nI (w_ic w + 1), ws_im w (w_ic w + 1) (fun i => if i = w_ic w then (fun p => w_F w p 5, fun p => w_F w p 6, w_sr w, w_ss w) else w_im w i)) := if_neg (by omega)
  rw [ha] at h
  have hF2 : FrS (fun a j => (194 + 4 * w_ic w ≤ a ∧ a ≤ 197 + 4 * w_ic w) ∨ (a = 100 ∧ j = 17)) M (m_si M1 100 17 (nI (w_ic w + 1))) := (hF1.mono (fun a j q => by omega)).tr (FrS.si (Or.inr ⟨rfl, rfl⟩) _)
  have y17 : m_i (m_si M1 100 17 (nI (w_ic w + 1))) 100 17 = nI (w_ic w + 1) := by rw [m_i_si, if_pos ⟨rfl, rfl⟩]
  have yk : ∀ a j, 194 ≤ a → m_i (m_si M1 100 17 (nI (w_ic w + 1))) a j = m_i M1 a j := fun a j ha => by rw [m_i_si, if_neg (by omega)]
  generalize m_si M1 100 17 (nI (w_ic w + 1)) = M2 at *
  have hcd : CDY M2 (ws_im w (w_ic w + 1) (fun i => if i = w_ic w then (fun p => w_F w p 5, fun p => w_F w p 6, w_sr w, w_ss w) else w_im w i)) P A E len := (hI.cd.fr hw hF2 (fun a j q => by omega)).cg
  refine (h M2 P A E (KR.of (FrX.of (Q := fun _ _ => False) hF2) (fun a j q => by omega) (fun a j q => q.elim)) (hcd.inv (CTx.ag (w := w) hI.2.2.2.2.2.2.2.2.1 (hF2.1 _ _ (by omega)) (hF2.1 _ _ (by omega)) (fun j => hF2.1 _ j (by omega))) ⟨⟨by rw [hF2.1 _ _ (by omega)]; exact e15, fun j hj => by rw [hF2.1 _ _ (by omega)]; exact er j hj⟩, y17, fun i hi => ?_⟩)).1 rfl
  have hi3 : i < w_ic w + 1 := hi
  show CKp M2 (w_n w) i (if i = w_ic w then (fun p => w_F w p 5, fun p => w_F w p 6, w_sr w, w_ss w) else w_im w i)
  by_cases y : i = w_ic w
  · subst y
    rw [if_pos rfl]
    refine ⟨by rw [yk _ _ (by omega)]; exact k3, fun j hj => ?_, fun p hp => ⟨?_, ?_⟩⟩
    · rw [yk _ _ (by omega), show 197 + 4 * w_ic w = 194 + 4 * w_ic w + 3 by omega, k2 j hj]; exact er j hj
    · rw [yk _ _ (by omega), show 195 + 4 * w_ic w = 194 + 4 * w_ic w + 1 by omega]; exact (k1 p hp).1
    · rw [yk _ _ (by omega), show 196 + 4 * w_ic w = 194 + 4 * w_ic w + 2 by omega]; exact (k1 p hp).2
  · rw [if_neg y]
    exact (ek i (by omega)).ag (fun a h1 h2 j => hF2.1 a j (by omega))
theorem ct_c_restore (M : Mm) (w : Wd) (hw : WOK w) {P A E len : Nat} (hI : CINV M w P A E len) (ex : Nat → String) (hd : 2 < d) (h : CPost M len (aRestore w) ex Φ) : Ct l G d mBo_restore bc bs [.ref 100] M Φ := by
  have c0 := hI.1.1.1
  have n8 := hw.1
  have hic := hw.2.2.2.2.2.2.2.2.1
  obtain ⟨b1, hP, hA, hE, r4, r5, r6, r7, -⟩ := id hI.1
  have r14 : m_r M 100 14 = 192 := b1.2.2.2.2.2.2.2.2.2.2.2.1
  have s192 : m_sh M 192 = (20, 8) := b1.2.2.2.2.2.2.2.2.2.2.2.2.1
  have r16 : m_r M 100 16 = 193 := b1.2.2.2.2.2.2.2.2.2.2.2.2.2.1
  have s193 : m_sh M 193 = (31, 3) := b1.2.2.2.2.2.2.2.2.2.2.2.2.2.2.1
  have him := b1.2.2.2.2.2.2.2.2.2.2.2.2.2.2.2.1
  obtain ⟨⟨e15, er⟩, e17, ek⟩ := hI.2.2.2.2.2.2.2.2.2
  have e1 : (1 : Int32) ≤ nI (w_ic w) ↔ 1 ≤ w_ic w := nI_leI (a := 1) (by omega) (by omega)
  refine Ct.of rfl (Nat.le_of_ble_eq_true rfl) ?_
  refine bBo_restore_0 _ _ ⟨c0, ?_⟩
  rw [e17, e1]
  refine ⟨fun z => ?_, fun z => h.done (KR.rf M) hI (if_pos (by omega))⟩
  obtain ⟨k, hk⟩ : ∃ k, w_ic w = k + 1 := ⟨w_ic w - 1, by omega⟩
  rw [hk, nI_pred, m_i_si, if_pos ⟨rfl, rfl⟩, r16, s193, nI_clamp (by omega), r4, r14]
  obtain ⟨i1, i2⟩ := him k (by omega)
  rw [i1]
  refine ⟨rfl, vp_in_nI (by omega) (by omega), i2.1, CallVC.cps0 (by omega) ?_⟩
  have hF0 : FrS (fun a j => a = 100 ∧ j = 17) M (m_si M 100 17 (nI k)) := FrS.si ⟨rfl, rfl⟩ _
  have y17 : m_i (m_si M 100 17 (nI k)) 100 17 = nI k := by rw [m_i_si, if_pos ⟨rfl, rfl⟩]
  generalize m_si M 100 17 (nI k) = M0 at *
  obtain ⟨q1, q2, q3⟩ := ek k (by omega)
  refine ct_imPut M0 (194 + 4 * k) P (w_n w) (fun p => nI ((w_im w k).1 p)) (fun p => nI ((w_im w k).2.1 p)) (i2.ag (fun j => hF0.2.1 _ j) (fun a _ _ => hF0.2.2.2.1 a)) (hI.pe.of hF0.2.1 hF0.2.2.2.1) (by rw [hF0.1 _ _ (by omega)]; exact hI.2.1.1) n8 (by omega) (by omega) (by rw [hF0.2.2.2.1]; exact s192) (fun p hp => ⟨by rw [hF0.1 _ _ (by omega), show 194 + 4 * k + 1 = 195 + 4 * k by omega]; exact (q3 p hp).1, by rw [hF0.1 _ _ (by omega), show 194 + 4 * k + 2 = 196 + 4 * k by omega]; exact (q3 p hp).2⟩) (by omega) (fun M1 hF1 k1 k2 => ?_)
  have ez : m_i M0 (194 + 4 * k) 3 = nI (w_im w k).2.2.2 := by rw [hF0.1 _ _ (by omega)]; exact q1
  rw [ez]
  have c1 : CS0 M1 := b1.ag (fun a j _ _ _ => by rw [hF1.2.1, hF0.2.1]) (fun a _ _ => by rw [hF1.2.2.2.1, hF0.2.2.2.1])
  have d1 : (m_sh M1 135).1 = 1 := by rw [hF1.2.2.2.1, hF0.2.2.2.1]; exact hI.1.d135
  refine bBo_restore_41 _ _ _ _ ⟨c1.1, c1.1, CallVC.cps0 (by omega) ?_⟩
  refine ct_untilsChanged (m_si M1 100 15 (nI (w_im w k).2.2.2)) c1 d1 (by omega) ?_
  have hF2 : FrS (fun a j => a = 100 ∧ (j = 15 ∨ j = 17) ∨ a = P + 1 ∨ a = 192 ∨ (a = 189 ∧ j = 1) ∨ (a = 135 ∧ j = 16) ∨ (a = 191 ∧ j = 0)) M (m_si (m_si (m_si (m_si M1 100 15 (nI (w_im w k).2.2.2)) 189 1 1) 135 16 1) 191 0 1) := (((((hF0.mono (fun a j q => by omega)).tr (hF1.mono (fun a j q => by omega))).tr (FrS.si (by omega) _)).tr (FrS.si (by omega) _)).tr (FrS.si (by omega) _)).tr (FrS.si (by omega) _)
  have g0 : ∀ a j, ¬ (a = 100 ∧ j = 15) → a ≠ 189 → a ≠ 135 → a ≠ 191 → m_i (m_si (m_si (m_si (m_si M1 100 15 (nI (w_im w k).2.2.2)) 189 1 1) 135 16 1) 191 0 1) a j = m_i M1 a j := fun a j n1 n2 n3 n4 => by rw [m_i_si, if_neg (by omega), m_i_si, if_neg (by omega), m_i_si, if_neg (by omega), m_i_si, if_neg n1]
  have g15 : m_i (m_si (m_si (m_si (m_si M1 100 15 (nI (w_im w k).2.2.2)) 189 1 1) 135 16 1) 191 0 1) 100 15 = nI (w_im w k).2.2.2 := by rw [m_i_si, if_neg (by omega), m_i_si, if_neg (by omega), m_i_si, if_neg (by omega), m_i_si, if_pos ⟨rfl, rfl⟩]
  have g189 : m_i (m_si (m_si (m_si (m_si M1 100 15 (nI (w_im w k).2.2.2)) 189 1 1) 135 16 1) 191 0 1) 189 1 = 1 := by rw [m_i_si, if_neg (by omega), m_i_si, if_neg (by omega), m_i_si, if_pos ⟨rfl, rfl⟩]
  have g135 : m_i (m_si (m_si (m_si (m_si M1 100 15 (nI (w_im w k).2.2.2)) 189 1 1) 135 16 1) 191 0 1) 135 16 = 1 := by rw [m_i_si, if_neg (by omega), m_i_si, if_pos ⟨rfl, rfl⟩]
  have g191 : m_i (m_si (m_si (m_si (m_si M1 100 15 (nI (w_im w k).2.2.2)) 189 1 1) 135 16 1) 191 0 1) 191 0 = 1 := by rw [m_i_si, if_pos ⟨rfl, rfl⟩]
  generalize m_si (m_si (m_si (m_si M1 100 15 (nI (w_im w k).2.2.2)) 189 1 1) 135 16 1) 191 0 1 = M2 at *
  have z17 : m_i M2 100 17 = nI k := by rw [g0 _ _ (by omega) (by omega) (by omega) (by omega), hF1.1 _ _ (by omega)]; exact y17
  refine bBo_restore_48 _ _ ⟨by rw [hF2.2.2.2.1]; exact c0, ?_⟩
  rw [z17]
  have ha : aRestore w = (0, nI k, ws_im (ws_sr (ws_F w (backF w (w_im w k))) (w_im w k).2.2.1 (w_im w k).2.2.2) k (w_im w)) := by
    unfold aRestore
    rw [if_neg (by omega), hk, Nat.add_sub_cancel]
  rw [ha] at h
  have hcd : CDY M2 (ws_im (ws_sr (ws_F w (backF w (w_im w k))) (w_im w k).2.2.1 (w_im w k).2.2.2) k (w_im w)) P A E len := hI.cd.setF rfl rfl rfl (fun p c h5 h6 => ?_) hF2 (fun a j q => by omega) (fun p c hp hc => ?_) g135 g191 (Or.inl g189)
  · refine (h M2 P A E (KR.of (FrX.of (Q := fun _ _ => False) hF2) (fun a j q => by omega) (fun a j q => q.elim)) (hcd.inv (CTx.ag (w := w) hI.2.2.2.2.2.2.2.2.1 (hF2.1 _ _ (by omega)) (hF2.1 _ _ (by omega)) (fun j => hF2.1 _ j (by omega))) ⟨⟨g15, fun j hj => ?_⟩, z17, fun i hi => ?_⟩)).1 rfl
    · rw [g0 _ _ (by omega) (by omega) (by omega) (by omega), k2 j hj, hF0.1 _ _ (by omega), show 194 + 4 * k + 3 = 197 + 4 * k by omega]
      exact q2 j hj
    · have hi' : i < k := hi
      exact (ek i (by omega)).ag (fun a h1 h2 j => hF2.1 a j (by omega))
  · show backF w (w_im w k) p c = w_F w p c
    unfold backF
    rw [if_neg (fun q => h5 q.2), if_neg (fun q => h6 q.2)]
  · show _ = nI (backF w (w_im w k) p c)
    rw [g0 _ _ (by omega) (by omega) (by omega) (by omega), k1 p c hp hc]
    unfold backF
    by_cases c5 : c = 5
    · rw [if_pos c5, if_pos ⟨hp, c5⟩]
    · rw [if_neg c5, if_neg (show ¬ (p < w_n w ∧ c = 5) from fun q => c5 q.2)]
      by_cases c6 : c = 6
      · rw [if_pos c6, if_pos (show p < w_n w ∧ c = 6 from ⟨hp, c6⟩)]
      · rw [if_neg c6, if_neg (show ¬ (p < w_n w ∧ c = 6) from fun q => c6 q.2), hF0.1 _ _ (by omega)]
        exact hI.2.1.2.2.1 p c hp hc
end SC8
