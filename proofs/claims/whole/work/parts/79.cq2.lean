/-! ===== the class: questions ===== -/
theorem CINV.pe {M : Mm} {w : Wd} {P A E len : Nat} (h : CINV M w P A E len) : PEok M P := h.2.2.2.1.2.2.1
section SC1
variable {l : Launch} {G : Gx} {d : Nat} {bc bs : Nat} {Φ : OutV → Mm → Prop}
theorem ct_c_fault (M : Mm) (w : Wd) {P A E len : Nat} (hI : CINV M w P A E len) (ex : Nat → String) (h : CPost M len (aFault w) ex Φ) : Ct l G d mBo_fault bc bs [.ref 100] M Φ := by
  refine Ct.of rfl (Nat.le_of_ble_eq_true rfl) ?_
  refine bBo_fault_0 _ _ ⟨hI.1.1.1, ?_⟩
  rw [hI.2.2.2.2.2.2.2.2.1.2]
  exact h.done (KR.rf M) hI rfl
theorem ct_c_count (M : Mm) (w : Wd) {P A E len : Nat} (hI : CINV M w P A E len) (x : Int32) (ex : Nat → String) (h : CPost M len (aCount w x) ex Φ) : Ct l G d mBo_count bc bs [.ref 100, .int x] M Φ := by
  have e15 := hI.2.2.2.2.2.2.2.2.2.1.1
  have e17 := hI.2.2.2.2.2.2.2.2.2.2.1
  have e1 := hI.2.2.2.2.2.2.2.2.1.1.1
  have c0 := hI.1.1.1
  refine Ct.of rfl (Nat.le_of_ble_eq_true rfl) ?_
  refine bBo_count_0 _ _ _ ⟨fun z => ⟨c0, by rw [e15]; exact h.done (KR.rf M) hI (by unfold aCount; rw [if_pos z])⟩, fun z => ⟨c0, by rw [e17]; exact h.done (KR.rf M) hI (by unfold aCount; rw [if_neg (by rw [z]; decide), if_pos z])⟩, fun z => ⟨c0, by rw [e1]; exact h.done (KR.rf M) hI (by unfold aCount; rw [if_neg (by rw [z]; decide), if_neg (by rw [z]; decide), if_pos z])⟩, fun z0 z1 z2 => h.done (KR.rf M) hI (by unfold aCount; rw [if_neg z0, if_neg z1, if_neg z2])⟩
theorem ct_c_told (M : Mm) (w : Wd) (hw : WOK w) {P A E len : Nat} (hI : CINV M w P A E len) (hl : l.stackTraces = false) (x : Int32) (hd : 6 < d) (h : CPost M len (aTold w x) exI Φ) : Ct l G d mBo_told 4 24 [.ref 100, .int x] M Φ := by
  have c0 := hI.1.1.1
  have n8 := hw.1
  have hR := hw.2.2.2.1
  refine Ct.of rfl (Nat.le_of_ble_eq_true rfl) ?_
  refine bBo_told_0 _ _ _ ⟨c0, CallVC.chk 3 18 (by omega) rfl rfl (ct_checkWhat M hl 7 x (by omega) (fun q1 => ?_) (fun q1 => h.fail (KR.rf M) hI (c := 1) (by decide) (okV_n q1)))⟩
  obtain ⟨v, hv, rfl⟩ := (vIn_nI (by omega)).mp q1
  have hfin : ∀ r, r = (if v = 0 then nI (w_n w) else if v = 1 then nI (w_R w).length else w_nu w 0 v) → Φ (.inl (some (.int r))) M := fun r e => h.done (KR.rf M) hI ((okV_y q1).trans (by rw [tN_nI (by omega), e]))
  obtain ⟨b1, hP, hA, hE, r4, r5, r6, r7, b9, -⟩ := id hI.1
  have r8 : m_r M 100 8 = 127 := b1.2.2.2.2.2.1
  have hif := hI.2.2.2.1
  have v0 : nI v = 0 ↔ v = 0 := nI_eq (b := 0) (by omega) (by omega)
  have v1 : nI v = 1 ↔ v = 1 := nI_eq (b := 1) (by omega) (by omega)
  refine bBo_told_7 _ _ _ ?_
  rw [r4, r6, r8, hif.1.2.1, v0, v1, hI.2.1.1, hI.2.2.1.1]
  refine ⟨fun z0 => ⟨fun z1 => ⟨c0, hif.1.1, by rw [hif.1.2.2.2.2.2.2.1], by rw [hif.1.2.2.2.2.2.2.1]; exact vp_in_nI (by omega) (by omega), ?_⟩, fun z1 => ⟨c0, hif.2.1.1, hfin _ (by rw [if_neg z0, if_pos z1])⟩⟩, fun z0 => ⟨c0, hI.pe.1, hfin _ (by rw [if_pos z0])⟩⟩
  rw [nI_clamp (by omega), hif.2.2.2.2.1 v (by omega)]
  exact hfin _ (by rw [if_neg z0, if_neg z1])
theorem ct_c_person (M : Mm) (w : Wd) (hw : WOK w) {P A E len : Nat} (hI : CINV M w P A E len) (hl : l.stackTraces = false) (x y : Int32) (hd : 6 < d) (h : CPost M len (aPerson w x y) exN Φ) : Ct l G d mBo_person 4 24 [.ref 100, .int x, .int y] M Φ := by
  have c0 := hI.1.1.1
  have n8 := hw.1
  refine Ct.of rfl (Nat.le_of_ble_eq_true rfl) ?_
  refine bBo_person_0 _ _ _ _ ⟨c0, CallVC.chk 3 18 (by omega) rfl rfl (ct_checkPerson M w hw hI hl x (by omega) (fun q1 => ?_) (fun q1 => h.fail (KR.rf M) hI (c := 1) (by decide) (okP_n q1)))⟩
  refine bBo_person_5 _ _ _ _ ⟨c0, CallVC.chk 2 12 (by omega) rfl rfl (ct_checkWhat M hl 7 y (by omega) (fun q2 => ?_) (fun q2 => h.fail (KR.rf M) hI (c := 2) (by decide) ((okP_y q1).trans (okV_n q2))))⟩
  obtain ⟨p, hp, rfl⟩ := (pIn_nI n8).mp q1
  obtain ⟨v, hv, rfl⟩ := (vIn_nI (by omega)).mp q2
  have r4 := hI.1.2.2.2.2.1
  refine bBo_person_12 _ _ _ _ ⟨c0, by rw [r4]; exact hI.pe.1, CallVC.cps0 (by omega) ?_⟩
  rw [r4]
  refine ct_fact M P p v hI.pe (by omega) (by omega) ?_
  rw [hI.2.1.2.2.1 p v hp (by omega)]
  refine bBo_person_21 _ _ _ _ _ (h.done (KR.rf M) hI (((okP_y q1).trans (okV_y q2)).trans ?_))
  rw [tN_nI (by omega), tN_nI (by omega)]
theorem ct_c_forget (M : Mm) (w : Wd) (hw : WOK w) {P A E len : Nat} (hI : CINV M w P A E len) (ex : Nat → String) (h : CPost M len (aForget w) ex Φ) : Ct l G d mBo_forget bc bs [.ref 100] M Φ := by
  obtain ⟨a1, a2, a3, a4, a5, a6, a7, a8, a9, a10⟩ := id hI
  obtain ⟨b1, hP, hA, hE, -⟩ := id a1
  refine Ct.of rfl (Nat.le_of_ble_eq_true rfl) ?_
  refine bBo_forget_0 _ _ ⟨a1.1.1, ?_⟩
  rw [a10.1.1]
  have hF : FrS (fun a j => a = 100 ∧ j = 15) M (m_si M 100 15 0) := FrS.si ⟨rfl, rfl⟩ _
  have y : m_i (m_si M 100 15 0) 100 15 = 0 := by rw [m_i_si, if_pos ⟨rfl, rfl⟩]
  generalize m_si M 100 15 0 = M1 at *
  have hcd : CDY M1 (ws_sr w (w_sr w) 0) P A E len := (hI.cd.fr hw hF (fun a j q => by omega)).cg
  exact (h M1 P A E (KR.of (FrX.of (Q := fun _ _ => False) hF) (fun a j q => by omega) (fun a j q => q.elim)) (hcd.inv (CTx.ag (w := w) a9 (hF.1 _ _ (by omega)) (hF.1 _ _ (by omega)) (fun j => hF.1 _ j (by omega))) ⟨⟨y, fun j hj => by rw [hF.1 _ _ (by omega)]; exact a10.1.2 j hj⟩, by rw [hF.1 _ _ (by omega)]; exact a10.2.1, fun i hi => (a10.2.2 i hi).ag (fun a h1 h2 j => hF.1 a j (by omega))⟩)).1 rfl
theorem ct_c_tell (M : Mm) (w : Wd) (hw : WOK w) {P A E len : Nat} (hI : CINV M w P A E len) (hl : l.stackTraces = false) (x : Int32) (hd : 6 < d) (h : CPost M len (aTell w x) exN Φ) : Ct l G d mBo_tell 4 24 [.ref 100, .int x] M Φ := by
  have c0 := hI.1.1.1
  have n8 := hw.1
  have s8 := hw.2.2.2.2.2.2.2.1
  refine Ct.of rfl (Nat.le_of_ble_eq_true rfl) ?_
  refine bBo_tell_0 _ _ _ ⟨c0, CallVC.chk 3 18 (by omega) rfl rfl (ct_checkPerson M w hw hI hl x (by omega) (fun q1 => ?_) (fun q1 => h.fail (KR.rf M) hI (c := 1) (by decide) (okP_n q1)))⟩
  obtain ⟨a1, a2, a3, a4, a5, a6, a7, a8, a9, a10⟩ := id hI
  obtain ⟨b1, hP, hA, hE, -⟩ := id a1
  have r14 : m_r M 100 14 = 192 := b1.2.2.2.2.2.2.2.2.2.2.2.1
  have s192 : m_sh M 192 = (20, 8) := b1.2.2.2.2.2.2.2.2.2.2.2.2.1
  have e15 := a10.1.1
  have e8 : nI (w_ss w) < 8 ↔ w_ss w < 8 := nI_ltI (b := 8) (by omega) (by omega)
  refine bBo_tell_5 _ _ _ ⟨c0, ?_⟩
  rw [e15, r14, s192, e8, nI_clamp (by omega)]
  refine ⟨fun z => ⟨rfl, vp_in_nI z (by omega), ?_⟩, fun z => h.done (KR.rf M) hI ((okP_y q1).trans (if_pos (by omega)))⟩
  rw [m_i_si, if_neg (by omega), e15, nI_1]
  have hF : FrS (fun a j => a = 192 ∨ (a = 100 ∧ j = 15)) M (m_si (m_si M 192 (w_ss w) x) 100 15 (nI (w_ss w + 1))) := (FrS.si (Or.inl rfl) _).tr (FrS.si (Or.inr ⟨rfl, rfl⟩) _)
  have y15 : m_i (m_si (m_si M 192 (w_ss w) x) 100 15 (nI (w_ss w + 1))) 100 15 = nI (w_ss w + 1) := by rw [m_i_si, if_pos ⟨rfl, rfl⟩]
  have yr : ∀ j, m_i (m_si (m_si M 192 (w_ss w) x) 100 15 (nI (w_ss w + 1))) 192 j = if j = w_ss w then x else m_i M 192 j := fun j => by
    rw [m_i_si, if_neg (by omega), m_i_si]
    by_cases y : j = w_ss w
    · rw [if_pos ⟨rfl, y⟩, if_pos y]
    · rw [if_neg (fun q => y q.2), if_neg y]
  generalize m_si (m_si M 192 (w_ss w) x) 100 15 (nI (w_ss w + 1)) = M1 at *
  refine bBo_tell_36 _ _ _ ⟨by rw [hF.2.2.2.1]; exact c0, ?_⟩
  rw [y15]
  have ha : aTell w x = (0, nI (w_ss w + 1), ws_sr w (fun j => if j = w_ss w then x else w_sr w j) (w_ss w + 1)) := (okP_y q1).trans (if_neg (by omega))
  rw [ha] at h
  have hcd : CDY M1 (ws_sr w (fun j => if j = w_ss w then x else w_sr w j) (w_ss w + 1)) P A E len := (hI.cd.fr hw hF (fun a j q => by omega)).cg
  exact (h M1 P A E (KR.of (FrX.of (Q := fun _ _ => False) hF) (fun a j q => by omega) (fun a j q => q.elim)) (hcd.inv (CTx.ag (w := w) a9 (hF.1 _ _ (by omega)) (hF.1 _ _ (by omega)) (fun j => hF.1 _ j (by omega))) ⟨⟨y15, fun j hj => by
    show _ = if j = w_ss w then x else w_sr w j
    rw [yr, a10.1.2 j hj]⟩, by rw [hF.1 _ _ (by omega)]; exact a10.2.1, fun i hi => (a10.2.2 i hi).ag (fun a h1 h2 j => hF.1 a j (by omega))⟩)).1 rfl
theorem ct_c_ends (M : Mm) (w : Wd) (hw : WOK w) {P A E len : Nat} (hI : CINV M w P A E len) (hl : l.stackTraces = false) (x : Int32) (hd : 7 < d) (h : CPost M len (aEnds w x) exN Φ) : Ct l G d mBo_ends 4 24 [.ref 100, .int x] M Φ := by
  have c0 := hI.1.1.1
  have n8 := hw.1
  refine Ct.of rfl (Nat.le_of_ble_eq_true rfl) ?_
  refine bBo_ends_0 _ _ _ ⟨c0, CallVC.chk 3 18 (by omega) rfl rfl (ct_checkPerson M w hw hI hl x (by omega) (fun q1 => ?_) (fun q1 => h.fail (KR.rf M) hI (c := 1) (by decide) (okP_n q1)))⟩
  obtain ⟨p, hp, rfl⟩ := (pIn_nI n8).mp q1
  refine bBo_ends_5 _ _ _ ⟨c0, CallVC.cps0 (by omega) (ct_dayAsItIs M w hw hI (by omega) (fun M1 hK1 hI1 hD1 hB1 => ?_))⟩
  obtain ⟨d0, d1, d2, d3, d9, d11, d12, s1, s2, s3, pb, dk⟩ := hD1.1.1.1
  refine bBo_ends_9 _ _ _ _ ⟨d0, by rw [d11, s3], by rw [d11, s3]; exact vp_in_nI (by omega) (by omega), ?_⟩
  rw [d11, nI_clamp (by omega), hD1.1.2.2.1 p (by omega)]
  exact h.done hK1 hI1 ((okP_y q1).trans (by rw [tN_nI (by omega)]))
theorem ct_c_balance (M : Mm) (w : Wd) (hw : WOK w) {P A E len : Nat} (hI : CINV M w P A E len) (hl : l.stackTraces = false) (x : Int32) (hd : 7 < d) (h : CPost M len (aBalance w x) exN Φ) : Ct l G d mBo_balance 4 24 [.ref 100, .int x] M Φ := by
  have c0 := hI.1.1.1
  have n8 := hw.1
  refine Ct.of rfl (Nat.le_of_ble_eq_true rfl) ?_
  refine bBo_balance_0 _ _ _ ⟨c0, CallVC.chk 3 18 (by omega) rfl rfl (ct_checkPerson M w hw hI hl x (by omega) (fun q1 => ?_) (fun q1 => h.fail (KR.rf M) hI (c := 1) (by decide) (okP_n q1)))⟩
  obtain ⟨p, hp, rfl⟩ := (pIn_nI n8).mp q1
  refine bBo_balance_5 _ _ _ ⟨c0, CallVC.cps0 (by omega) (ct_dayAsItIs M w hw hI (by omega) (fun M1 hK1 hI1 hD1 hB1 => ?_))⟩
  obtain ⟨d0, d1, d2, d3, d9, d11, d12, s1, s2, s3, pb, dk⟩ := hD1.1.1.1
  have b5 : m_r M1 (m_r M1 135 12) 5 = 145 := by rw [d12]; exact pb.2.2.2.2.2.2.1
  have sb' : m_sh M1 145 = (20, 8) := pb.2.2.2.2.2.2.2.2.2.2.2.2
  refine bBo_balance_9 _ _ _ _ ⟨d0, by rw [d12]; exact pb.1, by rw [b5, sb'], by rw [b5, sb']; exact vp_in_nI (by omega) (by omega), ?_⟩
  rw [b5, nI_clamp (by omega), hB1 p (by omega)]
  exact h.done hK1 hI1 ((okP_y q1).trans (by rw [tN_nI (by omega)]))
theorem ct_c_book (M : Mm) (w : Wd) (hw : WOK w) {P A E len : Nat} (hI : CINV M w P A E len) (hl : l.stackTraces = false) (x y : Int32) (hd : 7 < d) (h : CPost M len (aBook w x y) exN Φ) : Ct l G d mBo_book 4 24 [.ref 100, .int x, .int y] M Φ := by
  have c0 := hI.1.1.1
  have n8 := hw.1
  refine Ct.of rfl (Nat.le_of_ble_eq_true rfl) ?_
  refine bBo_book_0 _ _ _ _ ⟨c0, CallVC.chk 3 18 (by omega) rfl rfl (ct_checkPerson M w hw hI hl x (by omega) (fun q1 => ?_) (fun q1 => h.fail (KR.rf M) hI (c := 1) (by decide) (okP_n q1)))⟩
  refine bBo_book_5 _ _ _ _ ⟨c0, CallVC.chk 2 12 (by omega) rfl rfl (ct_checkPerson M w hw hI hl y (by omega) (fun q2 => ?_) (fun q2 => h.fail (KR.rf M) hI (c := 1) (by decide) ((okP_y q1).trans (okP_n q2))))⟩
  obtain ⟨p, hp, rfl⟩ := (pIn_nI n8).mp q1
  obtain ⟨o, ho, rfl⟩ := (pIn_nI n8).mp q2
  refine bBo_book_10 _ _ _ _ ⟨c0, CallVC.cps0 (by omega) (ct_dayAsItIs M w hw hI (by omega) (fun M1 hK1 hI1 hD1 hB1 => ?_))⟩
  obtain ⟨d0, d1, d2, d3, d9, d11, d12, s1, s2, s3, pb, dk⟩ := hD1.1.1.1
  have hok := (day0W_ok hw).1
  have hix := PBL.idx (cW_ok hw (fun p q => by cases q) (fun p q => by cases q) (fun p hp => (hw.2.1 p hp).2.2.2.2.2.1)).1 hok
  refine bBo_book_14 _ _ _ _ _ ⟨d0, by rw [d12]; exact pb.1, CallVC.cps0 (by omega) ?_⟩
  rw [d12]
  refine ct_given M1 _ _ _ _ _ _ pb hD1.1.2.1 (by have := hok.2.2.2.2.2.1; omega) (fun i hi => ⟨(hix i hi).1, (hix i hi).2.1⟩) p o (by omega) (by omega) ?_
  refine bBo_book_22 _ _ _ _ _ (h.done hK1 hI1 (((okP_y q1).trans (okP_y q2)).trans ?_))
  rw [tN_nI (by omega), tN_nI (by omega)]
  rfl
end SC1
