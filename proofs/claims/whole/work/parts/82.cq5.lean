/-! ===== the class: ways, untils, must, worth, images ===== -/
theorem m_cpy8 (M : Mm) (a b : Nat) : m_cpy M a b 0 0 8 = m_row M b (fun j => if j < 8 then m_i M a j else m_i M b j) := by
  refine Prod.ext (funext fun q => funext fun j => ?_) rfl
  show (if q = b then va_cpy (M.1 a) (M.1 b) 0 0 8 j else M.1 q j) = if q = b then (if j < 8 then M.1 a j else M.1 b j) else M.1 q j
  by_cases h : q = b
  · rw [if_pos h, if_pos h]
    by_cases h2 : j < 8
    · rw [if_pos h2, pk_cpy_in (by omega) (by omega)]
      rw [Nat.sub_zero, Nat.zero_add]
    · rw [if_neg h2, pk_cpy_out (by omega)]
  · rw [if_neg h, if_neg h]
theorem ruleS.cg {M : Mm} {L n : Nat} {f f' : Nat → Nat → Int32} {r : Nat} {v : Nat → Nat → Nat → Int32} (h : ruleS M L n f r v) (hf : ∀ p k, 1 ≤ k → k ≤ 3 → f p k = f' p k) : ruleS M L n f' r v := by
  obtain ⟨i0, c0, a1, a2, a3, a4, a5, a6⟩ := h
  exact ⟨i0, c0, a1, a2, a3, a4, a5, fun g o t b1 b2 b3 => by rw [← a6 g o t b1 b2 b3, evS_cg (fun k h1 h2 => ⟨(hf g k h1 h2).symm, (hf o k h1 h2).symm⟩)]⟩
theorem IFinv.chg {M M' : Mm} {I L P n : Nat} {f f' : Nat → Nat → Int32} {b b' : Nat → Nat} {nu : Nat → Int32} {must : Nat → Nat → Nat → Bool} {worth : Nat → Nat → Nat → Int32} (h : IFinv M I L P n f b nu must worth) (hi : ∀ a, (I ≤ a ∧ a ≤ I + 3) ∨ (L ≤ a ∧ a ≤ L + 5) → ∀ j, m_i M' a j = m_i M a j) (hr : ∀ a j, m_r M' a j = m_r M a j) (hs : ∀ a, m_sh M' a = m_sh M a) (hP : PErep M' P n f' b') (hf : ∀ p k, 1 ≤ k → k ≤ 3 → f p k = f' p k) : IFinv M' I L P n f' b' nu must worth := by
  obtain ⟨a1, a2, a3, a4, a5, a6, a7, a8, a9⟩ := h
  have e3 := hi (L + 3) (by omega)
  have e4 := hi (L + 4) (by omega)
  have e5 := hi (L + 5) (by omega)
  exact ⟨a1.of hr hs, a2.of hr hs, a3.of hr hs, hP, fun k hk => by rw [hi _ (by omega)]; exact a5 k hk, a6.imp id (fun ⟨r, b1, b2⟩ => ⟨r, b1, (b2.fr e3 e4 e5).cg hf⟩), a7.imp id (fun ⟨r, v, b1, b2, b3⟩ => ⟨r, v, b1, (b2.fr e3 e4 e5).cg hf, b3⟩), fun g o t b1 b2 b3 => by rw [hi _ (by omega)]; exact a8 g o t b1 b2 b3, fun g o t b1 b2 b3 => by rw [hi _ (by omega)]; exact a9 g o t b1 b2 b3⟩
theorem CDY.setF {M M' : Mm} {w w' : Wd} {P A E len : Nat} {X : Nat → Nat → Prop} (h : CDY M w P A E len) (hn : w_n w' = w_n w) (hb : w_by w' = w_by w) (hR : w_R w' = w_R w) (hFF : ∀ p k, k ≠ 5 → k ≠ 6 → w_F w' p k = w_F w p k) (hF : FrS X M M') (hX : ∀ a j, X a j → a = 100 ∨ a = P + 1 ∨ (a = 135 ∧ j = 16) ∨ (a = 191 ∧ j = 0) ∨ (a = 189 ∧ j = 1) ∨ (192 ≤ a ∧ a ≤ 205)) (hPf : ∀ p k, p < w_n w → k < 8 → m_i M' (P + 1) (p * 8 + k) = w_f w' p k) (h16 : m_i M' 135 16 = 1) (h191 : m_i M' 191 0 = 1) (h189 : m_i M' 189 1 = 1 ∨ (m_i M' 189 1 = m_i M 189 1 ∧ ∀ p, w_F w' p 6 = w_F w p 6)) : CDY M' w' P A E len := by
  obtain ⟨a1, a2, a3, a4, a5, a6, a7, a8⟩ := h
  have hP := a1.2.1
  have hA := a1.2.2.1
  have hi : ∀ a j, ¬ (a = 100 ∨ a = P + 1 ∨ (a = 135 ∧ j = 16) ∨ (a = 191 ∧ j = 0) ∨ (a = 189 ∧ j = 1) ∨ (192 ≤ a ∧ a ≤ 205)) → m_i M' a j = m_i M a j := fun a j n => hF.1 a j (fun q => n (hX a j q))
  have hf : ∀ p k, 1 ≤ k → k ≤ 3 → w_f w p k = w_f w' p k := fun p k h1 h2 => by unfold w_f; rw [hFF p k (by omega) (by omega)]
  have hnu : ∀ out, w_nu w' out = w_nu w out := fun out => by unfold w_nu; rw [hR]
  have b2 : PErep M' P (w_n w') (w_f w') (w_by w') := ⟨by rw [hi _ _ (by omega), hn]; exact a2.1, by rw [hn]; exact a2.2.1, fun p k hp hk => hPf p k (by rw [← hn]; exact hp) hk, fun i hi2 => by rw [hi _ _ (by omega), hb, hn]; exact a2.2.2.2 i (by rw [← hn]; exact hi2)⟩
  have b4 : CIF M' w' A P := by
    unfold CIF
    rw [hnu, hR, ← mustF_cg hf, ← worthF_cg hf]
    have : IFinv M' 127 A P (w_n w) (w_f w') (w_by w') (w_nu w 0) (mustF (w_R w) (w_nu w 0) (w_f w)) (worthF (w_R w) (w_nu w 0) (w_f w)) := IFinv.chg a4 (fun a q j => hi a j (by omega)) hF.2.1 hF.2.2.2.1 (by rw [← hn]; exact b2) hf
    rw [hn]
    exact this
  have b1 : CSH M' P A E len := by
    obtain ⟨b1, b2, b3, b4, b5, b6, b7, b8, b9, ⟨i1, p1, b10⟩, ⟨i2, p2, b11⟩, b12, b13⟩ := a1
    exact ⟨b1.ag (fun a j _ _ _ => hF.2.1 a j) (fun a _ _ => hF.2.2.2.1 a), b2, b3, b4, by rw [hF.2.1]; exact b5, by rw [hF.2.1]; exact b6, by rw [hF.2.1]; exact b7, by rw [hF.2.1]; exact b8, b9.ag (fun j _ _ => hF.2.1 _ j) (fun a _ _ => hF.2.2.2.1 a), ⟨i1, p1, b10.of hF.2.1 hF.2.2.2.1⟩, ⟨i2, p2, b11.of hF.2.1 hF.2.2.2.1⟩, by rw [hF.2.1]; exact b12, by rw [hF.2.2.2.1]; exact b13⟩
  refine ⟨b1, b2, by rw [hR]; exact a3.fr (fun a h1 h2 j => hi a j (by omega)), b4, ?_, fun q => absurd (h16.symm.trans q) (by decide), ?_, fun q => absurd (h191.symm.trans q) (by decide)⟩
  · have b5 : CPT M' w := a5.ag (fun a h1 h2 j => hi a j (by omega))
    unfold CPT
    rw [hR, hn]
    exact ⟨ICm.cg hf b5.1, ICw.cg hf b5.2⟩
  · rcases h189 with q | ⟨q1, q2⟩
    · exact fun z => absurd (q.symm.trans z) (by decide)
    · have hcg : cgW w w' := ⟨hn.symm, fun p k hk => by
        by_cases z : k = 6
        · rw [z, q2]
        · rw [hFF p k hk z], fun i => by rw [hb], hR.symm⟩
      refine CWr.cg hcg (a7.ag (fun j => ?_))
      by_cases z : j = 1
      · rw [z]; exact q1
      · exact hi _ _ (by omega)
section SC4
variable {l : Launch} {G : Gx} {d : Nat} {bc bs : Nat} {Φ : OutV → Mm → Prop}
theorem ct_waysChanged (M : Mm) (hC : CS0 M) (hs : (m_sh M 135).1 = 1) (h : Φ (.inl none) (m_si (m_si M 135 16 1) 191 0 1)) : Ct l G d mBo_waysChanged bc bs [.ref 100] M Φ := by
  have r10 : m_r M 100 10 = 135 := hC.2.2.2.2.2.2.2.1
  have r13 : m_r M 100 13 = 191 := hC.2.2.2.2.2.2.2.2.2.2.1
  refine Ct.of rfl (Nat.le_of_ble_eq_true rfl) ?_
  refine bBo_waysChanged_0 _ _ ⟨hC.1, by rw [r10]; exact hs, by rw [r13]; exact hC.2.2.2.2.2.2.2.2.2.2.2.2.2.2.2.2.2.2.2.2.2, ?_⟩
  rw [r10, r13]
  exact h
theorem ct_untilsChanged (M : Mm) (hC : CS0 M) (hs : (m_sh M 135).1 = 1) (hd : 0 < d) (h : Φ (.inl none) (m_si (m_si (m_si M 189 1 1) 135 16 1) 191 0 1)) : Ct l G d mBo_untilsChanged bc bs [.ref 100] M Φ := by
  have r12 : m_r M 100 12 = 189 := hC.2.2.2.2.2.2.2.2.2.1
  refine Ct.of rfl (Nat.le_of_ble_eq_true rfl) ?_
  refine bBo_untilsChanged_0 _ _ ⟨hC.1, by rw [r12]; exact hC.2.2.2.2.2.2.2.2.2.2.2.2.2.2.2.2.2.2.2.2.1, CallVC.cps0 hd ?_⟩
  rw [r12]
  exact ct_waysChanged _ hC hs (bBo_untilsChanged_12 _ _ h)
theorem CSH.d135 {M : Mm} {P A E len : Nat} (h : CSH M P A E len) : (m_sh M 135).1 = 1 := by
  obtain ⟨i, p, q⟩ := h.2.2.2.2.2.2.2.2.2.1
  exact q.1
theorem ct_c_way (M : Mm) (w : Wd) (hw : WOK w) {P A E len : Nat} (hI : CINV M w P A E len) (hl : l.stackTraces = false) (x y : Int32) (hd : 6 < d) (h : CPost M len (aWay w x y) exN Φ) : Ct l G d mBo_way 4 24 [.ref 100, .int x, .int y] M Φ := by
  have c0 := hI.1.1.1
  have n8 := hw.1
  refine Ct.of rfl (Nat.le_of_ble_eq_true rfl) ?_
  refine bBo_way_0 _ _ _ _ ⟨c0, CallVC.chk 3 18 (by omega) rfl rfl (ct_checkPerson M w hw hI hl x (by omega) (fun q1 => ?_) (fun q1 => h.fail (KR.rf M) hI (c := 1) (by decide) (okP_n q1)))⟩
  refine bBo_way_5 _ _ _ _ _ ⟨c0, CallVC.chk 2 12 (by omega) rfl rfl (ct_checkWhat M hl 4 y (by omega) (fun q2 => ?_) (fun q2 => h.fail (KR.rf M) hI (c := 2) (by decide) ((okP_y q1).trans (okV_n q2))))⟩
  obtain ⟨p, hp, rfl⟩ := (pIn_nI n8).mp q1
  obtain ⟨v, hv, rfl⟩ := (vIn_nI (by omega)).mp q2
  have hP := hI.1.2.1
  have r4 := hI.1.2.2.2.2.1
  have hpe := hI.pe
  refine bBo_way_11 _ _ _ _ _ ⟨c0, by rw [r4]; exact hpe.1, CallVC.cps0 (by omega) ?_⟩
  rw [r4]
  refine ct_fact M P p 5 hpe (by omega) (by omega) ?_
  rw [hI.2.1.2.2.1 p 5 hp (by omega)]
  refine bBo_way_20 _ _ _ _ _ _ ⟨c0, by rw [r4]; exact hpe.1, CallVC.cps0 (by omega) ?_⟩
  rw [r4]
  refine ct_setFact M P p 5 _ hpe (by omega) (by omega) ?_
  refine bBo_way_31 _ _ _ _ _ ⟨c0, CallVC.cps0 (by omega) ?_⟩
  refine ct_waysChanged _ hI.1.1 hI.1.d135 ?_
  refine bBo_way_35 _ _ _ _ _ ?_
  have hF : FrS (fun a j => a = P + 1 ∨ (a = 135 ∧ j = 16) ∨ (a = 191 ∧ j = 0)) M (m_si (m_si (m_si M (P + 1) (p * 8 + 5) (nI v)) 135 16 1) 191 0 1) := ((FrS.si (Or.inl rfl) _).tr (FrS.si (Or.inr (Or.inl ⟨rfl, rfl⟩)) _)).tr (FrS.si (Or.inr (Or.inr ⟨rfl, rfl⟩)) _)
  have ha : aWay w (nI p) (nI v) = (0, w_f w p 5, ws_F w (upd2 (w_F w) p 5 v)) := by
    refine ((okP_y q1).trans (okV_y q2)).trans ?_
    rw [tN_nI (by omega), tN_nI (by omega)]
  rw [ha] at h
  have hcd : CDY (m_si (m_si (m_si M (P + 1) (p * 8 + 5) (nI v)) 135 16 1) 191 0 1) (ws_F w (upd2 (w_F w) p 5 v)) P A E len := hI.cd.setF rfl rfl rfl (fun q k h5 h6 => if_neg (fun z => h5 z.2)) hF (fun a j q => by omega) (fun q k hq hk => ?_) (by rw [m_i_si, if_neg (by omega), m_i_si, if_pos ⟨rfl, rfl⟩]) (by rw [m_i_si, if_pos ⟨rfl, rfl⟩]) (Or.inr ⟨hF.1 _ _ (by omega), fun q => if_neg (fun z => by have := z.2; omega)⟩)
  · exact (h _ P A E (KR.of (FrX.of (Q := fun _ _ => False) hF) (fun a j q => by omega) (fun a j q => q.elim)) (hcd.inv (CTx.ag (w := w) hI.2.2.2.2.2.2.2.2.1 (hF.1 _ _ (by omega)) (hF.1 _ _ (by omega)) (fun j => hF.1 _ j (by omega))) (CSv.ag (w := w) hw hI.2.2.2.2.2.2.2.2.2 (hF.1 _ _ (by omega)) (hF.1 _ _ (by omega)) (fun a h1 h2 j => hF.1 a j (by omega))))).1 rfl
  · show _ = nI (if q = p ∧ k = 5 then v else w_F w q k)
    rw [m_i_si, if_neg (by omega), m_i_si, if_neg (by omega), m_i_si]
    by_cases z : q = p ∧ k = 5
    · rw [if_pos ⟨rfl, by rw [z.1, z.2]⟩, if_pos z]
    · rw [if_neg (by omega), if_neg z]; exact hI.2.1.2.2.1 q k hq hk
theorem ct_c_until (M : Mm) (w : Wd) (hw : WOK w) {P A E len : Nat} (hI : CINV M w P A E len) (hl : l.stackTraces = false) (x y : Int32) (hd : 6 < d) (h : CPost M len (aUntil w x y) exN Φ) : Ct l G d mBo_until 4 24 [.ref 100, .int x, .int y] M Φ := by
  have c0 := hI.1.1.1
  have n8 := hw.1
  refine Ct.of rfl (Nat.le_of_ble_eq_true rfl) ?_
  refine bBo_until_0 _ _ _ _ ⟨c0, CallVC.chk 3 18 (by omega) rfl rfl (ct_checkPerson M w hw hI hl x (by omega) (fun q1 => ?_) (fun q1 => h.fail (KR.rf M) hI (c := 1) (by decide) (okP_n q1)))⟩
  refine bBo_until_5 _ _ _ _ _ ⟨c0, CallVC.chk 2 12 (by omega) rfl rfl (ct_checkWhat M hl 99 y (by omega) (fun q2 => ?_) (fun q2 => h.fail (KR.rf M) hI (c := 2) (by decide) ((okP_y q1).trans (okV_n q2))))⟩
  obtain ⟨p, hp, rfl⟩ := (pIn_nI n8).mp q1
  obtain ⟨v, hv, rfl⟩ := (vIn_nI (by omega)).mp q2
  have hP := hI.1.2.1
  have r4 := hI.1.2.2.2.2.1
  have hpe := hI.pe
  refine bBo_until_12 _ _ _ _ _ ⟨c0, by rw [r4]; exact hpe.1, CallVC.cps0 (by omega) ?_⟩
  rw [r4]
  refine ct_fact M P p 6 hpe (by omega) (by omega) ?_
  rw [hI.2.1.2.2.1 p 6 hp (by omega)]
  refine bBo_until_22 _ _ _ _ _ _ ⟨c0, by rw [r4]; exact hpe.1, CallVC.cps0 (by omega) ?_⟩
  rw [r4]
  refine ct_setFact M P p 6 _ hpe (by omega) (by omega) ?_
  refine bBo_until_34 _ _ _ _ _ ⟨c0, CallVC.cps0 (by omega) ?_⟩
  refine ct_untilsChanged _ hI.1.1 hI.1.d135 (by omega) ?_
  refine bBo_until_38 _ _ _ _ _ ?_
  have hF : FrS (fun a j => a = P + 1 ∨ (a = 189 ∧ j = 1) ∨ (a = 135 ∧ j = 16) ∨ (a = 191 ∧ j = 0)) M (m_si (m_si (m_si (m_si M (P + 1) (p * 8 + 6) (nI v)) 189 1 1) 135 16 1) 191 0 1) := (((FrS.si (Or.inl rfl) _).tr (FrS.si (Or.inr (Or.inl ⟨rfl, rfl⟩)) _)).tr (FrS.si (Or.inr (Or.inr (Or.inl ⟨rfl, rfl⟩))) _)).tr (FrS.si (Or.inr (Or.inr (Or.inr ⟨rfl, rfl⟩))) _)
  have ha : aUntil w (nI p) (nI v) = (0, w_f w p 6, ws_F w (upd2 (w_F w) p 6 v)) := by
    refine ((okP_y q1).trans (okV_y q2)).trans ?_
    rw [tN_nI (by omega), tN_nI (by omega)]
  rw [ha] at h
  have hcd : CDY (m_si (m_si (m_si (m_si M (P + 1) (p * 8 + 6) (nI v)) 189 1 1) 135 16 1) 191 0 1) (ws_F w (upd2 (w_F w) p 6 v)) P A E len := hI.cd.setF rfl rfl rfl (fun q k h5 h6 => if_neg (fun z => h6 z.2)) hF (fun a j q => by omega) (fun q k hq hk => ?_) (by rw [m_i_si, if_neg (by omega), m_i_si, if_pos ⟨rfl, rfl⟩]) (by rw [m_i_si, if_pos ⟨rfl, rfl⟩]) (Or.inl (by rw [m_i_si, if_neg (by omega), m_i_si, if_neg (by omega), m_i_si, if_pos ⟨rfl, rfl⟩]))
  · exact (h _ P A E (KR.of (FrX.of (Q := fun _ _ => False) hF) (fun a j q => by omega) (fun a j q => q.elim)) (hcd.inv (CTx.ag (w := w) hI.2.2.2.2.2.2.2.2.1 (hF.1 _ _ (by omega)) (hF.1 _ _ (by omega)) (fun j => hF.1 _ j (by omega))) (CSv.ag (w := w) hw hI.2.2.2.2.2.2.2.2.2 (hF.1 _ _ (by omega)) (hF.1 _ _ (by omega)) (fun a h1 h2 j => hF.1 a j (by omega))))).1 rfl
  · show _ = nI (if q = p ∧ k = 6 then v else w_F w q k)
    rw [m_i_si, if_neg (by omega), m_i_si, if_neg (by omega), m_i_si, if_neg (by omega), m_i_si]
    by_cases z : q = p ∧ k = 6
    · rw [if_pos ⟨rfl, by rw [z.1, z.2]⟩, if_pos z]
    · rw [if_neg (by omega), if_neg z]; exact hI.2.1.2.2.1 q k hq hk
/-- both InForce's caches may have grown -/
theorem CINV.cache {M M' : Mm} {w : Wd} {P A E len : Nat} (hw : WOK w) (hI : CINV M w P A E len) {Q : Nat → Prop} (hF : Fr Q M M') (hQ : ∀ a, Q a → a = 129 ∨ a = 130 ∨ a = A + 6) (hif : CIF M' w A P) : CINV M' w P A E len ∧ KR M M' := by
  have hA := hI.1.2.2.1
  have hF' : FrS (fun a _ => a = 129 ∨ a = 130 ∨ a = A + 6) M M' := FrS.of hF (fun a j q => hQ a q)
  exact ⟨hI.fx hw (FrX.of (Q := fun _ _ => False) hF') (fun a j q => q.elim) (fun a j q => by omega) hif (hI.2.2.2.2.1.ag (fun a h1 h2 j => hF'.1 a j (by omega))) (hI.2.2.2.2.2.1.ag hw (hF'.ag (fun a j h1 q => by omega)) hif), KR.of (FrX.of (Q := fun _ _ => False) hF') (fun a j q => by omega) (fun a j q => q.elim)⟩
theorem ct_checkPair (M : Mm) (w : Wd) (hw : WOK w) {P A E len : Nat} (hI : CINV M w P A E len) (hl : l.stackTraces = false) (x y t : Int32) (hd : 6 < d) (h1 : pIn w x → pIn w y → vIn 16 t → ¬ x = y → Φ (.inl none) M) (h2 : (¬ pIn w x ∨ (pIn w x ∧ ¬ pIn w y)) → Φ (.inr "java/util/NoSuchElementException") M) (h3 : pIn w x → pIn w y → (¬ vIn 16 t ∨ (vIn 16 t ∧ x = y)) → Φ (.inr "java/lang/IllegalArgumentException") M) : Ct l G d mBo_checkPair 4 24 [.ref 100, .int x, .int y, .int t] M Φ := by
  have c0 := hI.1.1.1
  refine Ct.of rfl (Nat.le_of_ble_eq_true rfl) ?_
  refine bBo_checkPair_0 _ _ _ _ _ ⟨c0, CallVC.chk 3 18 (by omega) rfl rfl (ct_checkPerson M w hw hI hl x (by omega) (fun q1 => ?_) (fun q1 => h2 (Or.inl q1)))⟩
  refine bBo_checkPair_5 _ _ _ _ _ ⟨c0, CallVC.chk 2 12 (by omega) rfl rfl (ct_checkPerson M w hw hI hl y (by omega) (fun q2 => ?_) (fun q2 => h2 (Or.inr ⟨q1, q2⟩)))⟩
  refine bBo_checkPair_10 _ _ _ _ _ ⟨c0, CallVC.chk 1 6 (by omega) rfl rfl (ct_checkWhat M hl 16 t (by omega) (fun q3 => ?_) (fun q3 => h3 q1 q2 (Or.inl q3)))⟩
  exact bBo_checkPair_17 _ _ _ _ _ ⟨fun z => h1 q1 q2 q3 z, fun z => ⟨hl, by omega, by omega, by omega, h3 q1 q2 (Or.inr ⟨q3, z⟩)⟩⟩
theorem ct_c_must (M : Mm) (w : Wd) (hw : WOK w) {P A E len : Nat} (hI : CINV M w P A E len) (hl : l.stackTraces = false) (x y t : Int32) (hd : 7 < d) (h : CPost M len (aMust w x y t) exN Φ) : Ct l G d mBo_must 4 24 [.ref 100, .int x, .int y, .int t] M Φ := by
  have c0 := hI.1.1.1
  have n8 := hw.1
  have hP := hI.1.2.1
  have hA := hI.1.2.2.1
  refine Ct.of rfl (Nat.le_of_ble_eq_true rfl) ?_
  refine bBo_must_0 _ _ _ _ _ ⟨c0, CallVC.cps (bc2 := 4) (bs2 := 24) (bc := 0) (bs := 0) (d2 := d - 1) (by omega) (ct_checkPair M w hw hI hl x y t (by omega) (fun q1 q2 q3 q4 => ?_) (fun q => h.fail (KR.rf M) hI (c := 1) (by decide) ?_) (fun q1 q2 q => h.fail (KR.rf M) hI (c := 2) (by decide) ?_))⟩
  · obtain ⟨p, hp, rfl⟩ := (pIn_nI n8).mp q1
    obtain ⟨o, ho, rfl⟩ := (pIn_nI n8).mp q2
    obtain ⟨v, hv, rfl⟩ := (vIn_nI (by omega)).mp q3
    have r8 : m_r M 100 8 = 127 := hI.1.1.2.2.2.2.2.1
    refine bBo_must_7 _ _ _ _ _ ⟨c0, by rw [r8]; exact hI.2.2.2.1.1.1, CallVC.cps0 (by omega) ?_⟩
    rw [r8]
    refine ct_mustOffer M 127 A P (w_n w) (w_f w) (w_by w) _ _ _ hI.2.2.2.1 (by omega) (by omega) p o v hp ho (by omega) (by omega) (fun M' hF hif => ?_)
    obtain ⟨hI', hK⟩ := hI.cache hw hF (fun a q => by omega) hif
    refine bBo_must_17 _ _ _ _ _ _ ⟨by cases mustF (w_R w) (w_nu w 0) (w_f w) p o v <;> rfl, h.done hK hI' ((((okP_y q1).trans (okP_y q2)).trans (okV_y q3)).trans ?_)⟩
    rw [if_neg q4, tN_nI (by omega), tN_nI (by omega), tN_nI (by omega)]
  · rcases q with q | ⟨q1, q2⟩
    · exact okP_n q
    · exact (okP_y q1).trans (okP_n q2)
  · rcases q with q | ⟨q3, q4⟩
    · exact ((okP_y q1).trans (okP_y q2)).trans (okV_n q)
    · exact (((okP_y q1).trans (okP_y q2)).trans (okV_y q3)).trans (if_pos q4)
theorem ct_c_worth (M : Mm) (w : Wd) (hw : WOK w) {P A E len : Nat} (hI : CINV M w P A E len) (hl : l.stackTraces = false) (x y t : Int32) (hd : 7 < d) (h : CPost M len (aWorth w x y t) exN Φ) : Ct l G d mBo_worth 4 24 [.ref 100, .int x, .int y, .int t] M Φ := by
  have c0 := hI.1.1.1
  have n8 := hw.1
  have hP := hI.1.2.1
  have hA := hI.1.2.2.1
  refine Ct.of rfl (Nat.le_of_ble_eq_true rfl) ?_
  refine bBo_worth_0 _ _ _ _ _ ⟨c0, CallVC.cps (bc2 := 4) (bs2 := 24) (bc := 0) (bs := 0) (d2 := d - 1) (by omega) (ct_checkPair M w hw hI hl x y t (by omega) (fun q1 q2 q3 q4 => ?_) (fun q => h.fail (KR.rf M) hI (c := 1) (by decide) ?_) (fun q1 q2 q => h.fail (KR.rf M) hI (c := 2) (by decide) ?_))⟩
  · obtain ⟨p, hp, rfl⟩ := (pIn_nI n8).mp q1
    obtain ⟨o, ho, rfl⟩ := (pIn_nI n8).mp q2
    obtain ⟨v, hv, rfl⟩ := (vIn_nI (by omega)).mp q3
    have r8 : m_r M 100 8 = 127 := hI.1.1.2.2.2.2.2.1
    refine bBo_worth_7 _ _ _ _ _ ⟨c0, by rw [r8]; exact hI.2.2.2.1.1.1, CallVC.cps0 (by omega) ?_⟩
    rw [r8]
    refine ct_passWorth M 127 A P (w_n w) (w_f w) (w_by w) _ _ _ hI.2.2.2.1 (by omega) (by omega) p o v hp ho (by omega) (by omega) (fun M' hF hif => ?_)
    obtain ⟨hI', hK⟩ := hI.cache hw hF (fun a q => by omega) hif
    refine bBo_worth_17 _ _ _ _ _ _ (h.done hK hI' ((((okP_y q1).trans (okP_y q2)).trans (okV_y q3)).trans ?_))
    rw [if_neg q4, tN_nI (by omega), tN_nI (by omega), tN_nI (by omega)]
  · rcases q with q | ⟨q1, q2⟩
    · exact okP_n q
    · exact (okP_y q1).trans (okP_n q2)
  · rcases q with q | ⟨q3, q4⟩
    · exact ((okP_y q1).trans (okP_y q2)).trans (okV_n q)
    · exact (((okP_y q1).trans (okP_y q2)).trans (okV_y q3)).trans (if_pos q4)
end SC4
