/-! ===== row: the class ===== -/
def XTT : Nat → Nat → Prop := fun a j => (102 ≤ a ∧ a ≤ 105) ∨ (a = 100 ∧ j = 1)
section CR3
variable {l : Launch} {G : Gx} {d : Nat} {bc bs : Nat} {Φ : OutV → Mm → Prop}
theorem ct_takeText (M : Mm) (w : Wd) (hw : WOK w) {P A E len : Nat} (hI : CINV M w P A E len) (hl : l.stackTraces = false) (x : Int32) (hd : 6 < d)
    (h1 : ∀ n, x = nI n → n ≤ w_T w → ∀ M' sz, FrX XTT YT M M' → TKS M' n (w_tp w) sz 0 → m_i M' 102 7 = -1 → m_i M' 100 1 = 0 → Φ (.inl none) M')
    (h0 : ¬ vIn (w_T w) x → Φ (.inr "java/lang/IllegalArgumentException") M) : Ct l G d mBo_takeText 1 6 [.ref 100, .int x] M Φ := by
  obtain ⟨c0, c1, c2, c3, c4, -⟩ := id hI.1.1
  obtain ⟨⟨t1, t2⟩, t3⟩ := hI.2.2.2.2.2.2.2.2.1
  have hT5 : w_T w ≤ 500 := hw.2.2.2.2.2.1
  have hby := hw.2.2.2.2.2.2.1
  refine Ct.of rfl (Nat.le_of_ble_eq_true rfl) ?_
  refine bBo_takeText_0 _ _ _ ⟨c0, ?_⟩
  rw [t1]
  refine CallVC.chk 0 0 (by omega) rfl rfl (ct_checkWhat M hl (w_T w) x (by omega) (fun q => ?_) h0)
  obtain ⟨n, hn, rfl⟩ := (vIn_nI (by omega)).mp q
  refine bBo_takeText_9 _ _ _ ⟨c0, by rw [c3]; exact c4.1, CallVC.cps0 (by omega) ?_⟩
  rw [c3, c1]
  refine ct_cut M n (w_tp w) (by omega) c4 c2 (fun i hi => ⟨t2 i (by omega), hby i (by omega)⟩) (by omega) (fun M1 sz F1 hs e5 e6 e7 => ?_)
  refine bBo_takeText_21 _ _ _ ⟨by rw [F1.2.2.2.1]; exact c0, ?_⟩
  have F2 : FrS (fun a j => a = 100 ∧ j = 1) M1 (m_si M1 100 1 0) := FrS.si (P := fun a j => a = 100 ∧ j = 1) ⟨rfl, rfl⟩ _
  have T1 : TKS M1 n (w_tp w) sz 0 := ⟨c4.fx F1 (fun j => by unfold YT; omega), hs, by omega, e5, by omega, fun j hj => hby j (by omega)⟩
  exact h1 n rfl hn _ sz ((F1.mono (fun a j z => by unfold XT at z; unfold XTT; omega) (fun a j z => z)).tr (FrX.of (F2.mono (fun a j z => by unfold XTT; omega)))) (T1.keepS F2 (fun a j _ _ => by omega)) (by rw [F2.1 _ _ (by omega)]; exact e7) (by rw [m_i_si, if_pos ⟨rfl, rfl⟩])
theorem ct_textChanged (M : Mm) (w : Wd) (hw : WOK w) {P A E len : Nat} (hS : CSH M P A E len) (hI : IFsh M 127) (hP : PErep M P (w_n w) (w_f w) (w_by w)) (hL : LArep M A (w_R w)) (hT : CTx M w) (hV : CSv M w) (hd : 3 < d) (h : ∀ M', KR M M' → CINV M' w P A E len → Φ (.inl none) M') : Ct l G d mBo_textChanged bc bs [.ref 100] M Φ := by
  have hPP := hS.2.1
  have hAA := hS.2.2.1
  obtain ⟨c0, c1, c2, c3, c4, c5, c6, -⟩ := id hS.1
  have r4 := hS.2.2.2.2.1
  have r6 := hS.2.2.2.2.2.2.1
  have h131 := hS.2.2.2.2.2.2.2.2.1
  refine Ct.of rfl (Nat.le_of_ble_eq_true rfl) ?_
  refine bBo_textChanged_0 _ _ ⟨c0, by rw [c5]; exact hI.1, CallVC.cps0 (by omega) ?_⟩
  rw [c5]
  refine ct_forgetAnswers M 127 hI (by omega) (fun M1 F1 z1 => ?_)
  refine bBo_textChanged_7 _ _ ⟨by rw [F1.2.2.2.1]; exact c0, by rw [F1.2.1, F1.2.2.2.1, c6]; exact h131.1, CallVC.cps0 (by omega) ?_⟩
  rw [F1.2.1, c6]
  have h131' : IFsh M1 131 := h131.ag (fun j _ _ => F1.2.1 _ _) (fun a _ _ => F1.2.2.2.1 a)
  refine ct_forgetAnswers M1 131 h131' (by omega) (fun M2 F2 z2 => ?_)
  have F12 : FrS (fun a _ => 127 ≤ a ∧ a ≤ 134) M M2 := (F1.mono (fun a j z => by omega)).tr (F2.mono (fun a j z => by omega))
  have hI2 : IFsh M2 127 := hI.ag (fun j _ _ => F12.2.1 _ _) (fun a _ _ => F12.2.2.2.1 a)
  refine bBo_textChanged_14 _ _ ⟨by rw [F12.2.2.2.1]; exact c0, by rw [F12.2.1, F12.2.2.2.1, c5]; exact hI.1, CallVC.cps0 (by omega) ?_⟩
  rw [F12.2.1, F12.2.1, F12.2.1, c5, r6, r4]
  have hPE : PEok M P := by
    rcases hPP with e | e <;> subst e
    · exact hS.1.2.2.2.2.2.2.2.2.2.2.2.2.2.2.2.2.1
    · exact hS.1.2.2.2.2.2.2.2.2.2.2.2.2.2.2.2.2.2.1
  have hLA : LAok M A := by
    rcases hAA with e | e <;> subst e
    · exact hS.1.2.2.2.2.2.2.2.2.2.2.2.2.2.2.2.2.2.2.1
    · exact hS.1.2.2.2.2.2.2.2.2.2.2.2.2.2.2.2.2.2.2.2.1
  have zz : ∀ a j, (a = 129 ∨ a = 130) → j < 1088 → m_i M2 a j = 0 := fun a j ha hj => by
    rw [F2.1 a j (by omega)]
    rcases ha with e | e <;> subst e
    · exact (z1 j hj).1
    · exact (z1 j hj).2
  refine ct_take M2 127 A P (w_R w) (w_n w) (w_f w) (w_by w) hI2 (hLA.of F12.2.1 F12.2.2.2.1) (hL.fr (fun a h1 h2 j => F12.1 a j (by omega))) hw.2.2.2.2.1 (hPE.of F12.2.1 F12.2.2.2.1) (hP.ag (F12.ag (fun a j h1 z => by omega))) (by omega) (by omega) 0 (by omega) (Or.inl (fun j hj => zz 129 j (by omega) hj)) (Or.inl (fun j hj => zz 130 j (by omega) hj)) (by omega) (fun M3 F3 hif _ _ => ?_)
  have F3' : FrX (fun a _ => 127 ≤ a ∧ a ≤ 134) (QT 127) M M3 := (FrX.of F12).tr (F3.mono (fun a j z => by unfold PT at z; omega) (fun a j z => z))
  have hS3 : CSH M3 P A E len := hS.fx F3' (fun a j z => by unfold QT at z; omega)
  refine bBo_textChanged_30 _ _ ⟨hS3.1.1, CallVC.cps0 (by omega) ?_⟩
  refine ct_untilsChanged M3 hS3.1 hS3.d135 (by omega) (bBo_textChanged_34 _ _ ?_)
  have F4 : FrS (fun a j => (a = 189 ∧ j = 1) ∨ (a = 135 ∧ j = 16) ∨ (a = 191 ∧ j = 0)) M3 (m_si (m_si (m_si M3 189 1 1) 135 16 1) 191 0 1) := ((FrS.si (P := fun a j => (a = 189 ∧ j = 1) ∨ (a = 135 ∧ j = 16) ∨ (a = 191 ∧ j = 0)) (Or.inl ⟨rfl, rfl⟩) _).tr (FrS.si (Or.inr (Or.inl ⟨rfl, rfl⟩)) _)).tr (FrS.si (Or.inr (Or.inr ⟨rfl, rfl⟩)) _)
  have v1 : m_i (m_si (m_si (m_si M3 189 1 1) 135 16 1) 191 0 1) 189 1 = 1 := by rw [m_i_si, if_neg (by omega), m_i_si, if_neg (by omega), m_i_si, if_pos ⟨rfl, rfl⟩]
  have v2 : m_i (m_si (m_si (m_si M3 189 1 1) 135 16 1) 191 0 1) 135 16 = 1 := by rw [m_i_si, if_neg (by omega), m_i_si, if_pos ⟨rfl, rfl⟩]
  have v3 : m_i (m_si (m_si (m_si M3 189 1 1) 135 16 1) 191 0 1) 191 0 = 1 := by rw [m_i_si, if_pos ⟨rfl, rfl⟩]
  generalize m_si (m_si (m_si M3 189 1 1) 135 16 1) 191 0 1 = M4 at F4 v1 v2 v3 ⊢
  have F5 : FrX (fun a j => (127 ≤ a ∧ a ≤ 134) ∨ (a = 189 ∧ j = 1) ∨ (a = 135 ∧ j = 16) ∨ (a = 191 ∧ j = 0)) (QT 127) M M4 := (F3'.mono (fun a j z => Or.inl z) (fun a j z => z)).tr (FrX.of (F4.mono (fun a j z => Or.inr z)))
  have hz4 : ∀ a j, (a = 133 ∨ a = 134) → j < 1088 → m_i M4 a j = 0 := fun a j ha hj => by
    rw [F4.1 a j (by omega), F3.1 a j (by unfold PT; omega)]
    rcases ha with e | e <;> subst e
    · exact (z2 j hj).1
    · exact (z2 j hj).2
  refine h M4 (KR.of F5 (fun a j z => by omega) (fun a j z => by unfold QT at z; omega)) ⟨hS.fx F5 (fun a j z => by unfold QT at z; omega), hP.ag (F5.ag (fun a j h1 z => by omega) (fun a j h1 z => by unfold QT at z; omega)), hL.fr (fun a h1 h2 j => F5.1 a j (by omega)), ?_, ⟨Or.inl (fun j hj => hz4 133 j (by omega) hj), Or.inl (fun j hj => hz4 134 j (by omega) hj)⟩, fun z => absurd z (by rw [v2]; decide), fun z => absurd z (by rw [v1]; decide), fun z => absurd z (by rw [v3]; decide), hT.ag (F5.1 _ _ (by omega)) (F5.1 _ _ (by omega)) (fun j => F5.1 _ _ (by omega)), hV.ag hw (F5.1 _ _ (by omega)) (F5.1 _ _ (by omega)) (fun a h1 h2 j => F5.1 a j (by omega))⟩
  exact IFinv.ag hif (F4.ag (fun a j h1 z => by omega)) (fun a h1 h2 j => F4.1 a j (by omega)) (fun a h1 h2 j => F4.2.1 a j) (fun a h1 h2 => F4.2.2.2.1 a)
end CR3
def wFlt (w : Wd) (v : Int32) : Wd := (w.1, w.2.1, w.2.2.1, w.2.2.2.1, 0, w.2.2.2.2.2.1, v, w.2.2.2.2.2.2.2)
def wRow (w : Wd) (r : RR) : Wd := (r.2.2.1, r.2.2.2, byF (fun x => r.2.2.2 x 0) r.2.2.1, w.2.2.2.1, 0, w.2.2.2.2.2.1, -1, w.2.2.2.2.2.2.2.1, 0, 0, w.2.2.2.2.2.2.2.2.2.2)
def rowA (w : Wd) (r : RR) : An := if r.1 = 0 then (0, nI r.2.2.1, wRow w r) else (0, nI r.1 - 10, wFlt w (nI r.2.1))
def aRow (w : Wd) (x : Int32) : An := okV 1 w (w_T w) x (rowA w (rwS (tN x) (w_tp w)))
theorem rwS_ok {n : Nat} {tp : Nat → Nat} (h : (rwS n tp).1 = 0) : FAs (rwS n tp).2.2.1 (rwS n tp).2.2.2 := rwF_ok n tp 41 0 _ 0 _ ⟨by omega, fun p hp => absurd hp (by omega)⟩ h
theorem WOK.row {w : Wd} (hw : WOK w) {r : RR} (h : FAs r.2.2.1 r.2.2.2) : WOK (wRow w r) := by
  obtain ⟨h1, h2, h3, h4, h5, h6, h7, h8, h9, h10⟩ := hw
  exact ⟨h.1, h.2, byF_ok _ _, h4, h5, by show 0 ≤ 500; omega, h7, by show 0 ≤ 8; omega, by show 0 ≤ 3; omega, fun i hi => absurd hi (by show ¬ i < 0; omega)⟩
theorem WOK.flt {w : Wd} (hw : WOK w) (v : Int32) : WOK (wFlt w v) := by
  obtain ⟨h1, h2, h3, h4, h5, h6, h7, h8, h9, h10⟩ := hw
  exact ⟨h1, h2, h3, h4, h5, by show 0 ≤ 500; omega, h7, h8, h9, h10⟩
theorem CINV.flt {M M' : Mm} {w : Wd} {P A E len : Nat} {X Y : Nat → Nat → Prop} (hw : WOK w) (hI : CINV M w P A E len) (hF : FrX X Y M M') (hX : ∀ a j, X a j → (a = 100 ∧ (j = 1 ∨ j = 3)) ∨ (102 ≤ a ∧ a ≤ 106) ∨ (217 - P ≤ a ∧ a ≤ 219 - P) ∨ (233 - A ≤ a ∧ a ≤ 239 - A)) (hY : ∀ a j, Y a j → a = 106) {v : Int32} (h1 : m_i M' 100 1 = 0) (h3 : m_i M' 100 3 = v) : CINV M' (wFlt w v) P A E len ∧ KR M M' := by
  have hPP := hI.1.2.1
  have hAA := hI.1.2.2.1
  obtain ⟨n, F, b, R, T, tp, fp, sr, ss, ic, im⟩ := w
  have hc := (hI.cd.tx hw hF (fun a j z => by have := hX a j z; omega) hY).cg (T' := 0) (tp' := tp) (fp' := v) (sr' := sr) (ss' := ss) (ic' := ic) (im' := im)
  exact ⟨hc.inv ⟨⟨h1, fun i hi => absurd hi (by show ¬ i < 0; omega)⟩, h3⟩ (CSv.ag (w := (n, F, b, R, T, tp, fp, sr, ss, ic, im)) hw hI.2.2.2.2.2.2.2.2.2 (hF.1 _ _ (fun z => by have := hX _ _ z; omega)) (hF.1 _ _ (fun z => by have := hX _ _ z; omega)) (fun a h4 h5 j => hF.1 a j (fun z => by have := hX _ _ z; omega))), KR.of hF (fun a j z => by have := hX a j z; omega) (fun a j z => by have := hY a j z; omega)⟩
section CR4
variable {l : Launch} {G : Gx} {d : Nat} {bc bs : Nat} {Φ : OutV → Mm → Prop}
theorem ct_c_row (M : Mm) (w : Wd) (hw : WOK w) {P A E len : Nat} (hI : CINV M w P A E len) (hl : l.stackTraces = false) (x : Int32) (hd : 7 < d) (h : CPost M len (aRow w x) exI Φ) : Ct l G d mBo_row 4 24 [.ref 100, .int x] M Φ := by
  have hPP := hI.1.2.1
  have hAA := hI.1.2.2.1
  obtain ⟨c0, c1, c2, c3, c4, -⟩ := id hI.1.1
  have r4 := hI.1.2.2.2.2.1
  have r5 := hI.1.2.2.2.2.2.1
  have hPE : PEok M (217 - P) := by
    rcases hPP with e | e <;> subst e
    · exact hI.1.1.2.2.2.2.2.2.2.2.2.2.2.2.2.2.2.2.2.1
    · exact hI.1.1.2.2.2.2.2.2.2.2.2.2.2.2.2.2.2.2.1
  have h127 : IFsh M 127 := hI.2.2.2.1.1.sh
  refine Ct.of rfl (Nat.le_of_ble_eq_true rfl) ?_
  refine bBo_row_0 _ _ _ ⟨c0, CallVC.chk 3 18 (by omega) rfl rfl (ct_takeText M w hw hI hl x (by omega) (fun n hx hn M1 sz F1 hT1 e7 e1 => ?_) (fun q => h.fail (KR.rf M) hI (c := 1) (by decide) (okV_n q)))⟩
  subst hx
  have hT5 : w_T w ≤ 500 := hw.2.2.2.2.2.1
  have ha : aRow w (nI n) = rowA w (rwS n (w_tp w)) := by
    refine (okV_y ((vIn_nI (by omega)).mpr ⟨n, hn, rfl⟩)).trans ?_
    rw [tN_nI (by omega)]
  rw [ha] at h
  unfold rowA at h
  have q5 : m_r M1 100 5 = 217 - P := by rw [F1.2.1 _ _ (by unfold YT; omega)]; exact r5
  have q2 : m_r M1 100 2 = 102 := by rw [F1.2.1 _ _ (by unfold YT; omega)]; exact c3
  have q4 : m_r M1 100 4 = P := by rw [F1.2.1 _ _ (by unfold YT; omega)]; exact r4
  have hPE1 : PEok M1 (217 - P) := hPE.fx F1 (fun j => by unfold YT; omega)
  refine bBo_row_5 _ _ _ _ _ ⟨by rw [F1.2.2.2.1]; exact c0, by rw [q5]; exact hPE1.1, CallVC.cps0 (by omega) ?_⟩
  rw [q5, q2]
  refine ct_readClauses M1 hT1 hPE1 (by omega) (by omega) (fun e0 M2 F2 hPd hby => ?_) (fun e0 M2 F2 hfl => ?_)
  · rw [if_pos e0] at h
    have hFA := rwS_ok e0
    generalize rwS n (w_tp w) = r at e0 hPd hby h hFA
    have e72 : m_i M2 102 7 = -1 := by rw [F2.1 _ _ (by unfold XS XB; omega)]; exact e7
    refine bBo_row_16 _ _ _ _ _ _ ⟨by rw [F2.2.2.2.1, F1.2.2.2.1]; exact c0, by rw [F2.2.1, F2.2.2.2.1, F1.2.2.2.1, q2]; exact c4.1, fun _ => ?_, fun z => absurd z (by decide)⟩
    rw [F2.2.1, F2.2.1, F2.2.1, q2, q4, q5, e72]
    refine bBo_row_56 _ _ _ _ _ ⟨by show (m_sh M2 100).1 = 10; rw [F2.2.2.2.1, F1.2.2.2.1]; exact c0, ?_⟩
    refine bBo_row_66 _ _ _ _ _ ⟨by show (m_sh M2 100).1 = 10; rw [F2.2.2.2.1, F1.2.2.2.1]; exact c0, CallVC.cps0 (by omega) ?_⟩
    have F3 : FrX (fun a j => a = 100 ∧ (j = 3 ∨ j = 15 ∨ j = 17)) (fun a j => a = 100 ∧ (j = 4 ∨ j = 5)) M2 (m_si (m_si (m_sr (m_sr (m_si M2 100 3 (-1)) 100 4 (217 - P)) 100 5 P) 100 15 0) 100 17 0) :=
      ((((FrX.of (FrS.si (P := fun a j => a = 100 ∧ (j = 3 ∨ j = 15 ∨ j = 17)) ⟨rfl, by omega⟩ _)).tr (FrX.sr ⟨rfl, by omega⟩ _)).tr (FrX.sr ⟨rfl, by omega⟩ _)).tr (FrX.of (FrS.si ⟨rfl, by omega⟩ _))).tr (FrX.of (FrS.si ⟨rfl, by omega⟩ _))
    have g3 : m_i (m_si (m_si (m_sr (m_sr (m_si M2 100 3 (-1)) 100 4 (217 - P)) 100 5 P) 100 15 0) 100 17 0) 100 3 = -1 := by rw [m_i_si, if_neg (by omega), m_i_si, if_neg (by omega), m_i_sr, m_i_sr, m_i_si, if_pos ⟨rfl, rfl⟩]
    have g15 : m_i (m_si (m_si (m_sr (m_sr (m_si M2 100 3 (-1)) 100 4 (217 - P)) 100 5 P) 100 15 0) 100 17 0) 100 15 = 0 := by rw [m_i_si, if_neg (by omega), m_i_si, if_pos ⟨rfl, rfl⟩]
    have g17 : m_i (m_si (m_si (m_sr (m_sr (m_si M2 100 3 (-1)) 100 4 (217 - P)) 100 5 P) 100 15 0) 100 17 0) 100 17 = 0 := by rw [m_i_si, if_pos ⟨rfl, rfl⟩]
    have g4 : m_r (m_si (m_si (m_sr (m_sr (m_si M2 100 3 (-1)) 100 4 (217 - P)) 100 5 P) 100 15 0) 100 17 0) 100 4 = 217 - P := by
      show m_r (m_sr (m_sr (m_si M2 100 3 (-1)) 100 4 (217 - P)) 100 5 P) 100 4 = _
      rw [m_r_sr, if_neg (by omega), m_r_sr, if_pos ⟨rfl, rfl⟩]
    have g5 : m_r (m_si (m_si (m_sr (m_sr (m_si M2 100 3 (-1)) 100 4 (217 - P)) 100 5 P) 100 15 0) 100 17 0) 100 5 = P := by
      show m_r (m_sr (m_sr (m_si M2 100 3 (-1)) 100 4 (217 - P)) 100 5 P) 100 5 = _
      rw [m_r_sr, if_pos ⟨rfl, rfl⟩]
    generalize m_si (m_si (m_sr (m_sr (m_si M2 100 3 (-1)) 100 4 (217 - P)) 100 5 P) 100 15 0) 100 17 0 = M3 at F3 g3 g15 g17 g4 g5 ⊢
    have FF3 : FrX (fun a j => (a = 100 ∧ (j = 1 ∨ j = 3 ∨ j = 15 ∨ j = 17)) ∨ (102 ≤ a ∧ a ≤ 105) ∨ (217 - P ≤ a ∧ a ≤ 219 - P)) (fun a j => a = 106 ∨ (a = 100 ∧ (j = 4 ∨ j = 5))) M M3 := ((F1.mono (fun a j z => by unfold XTT at z; omega) (fun a j z => Or.inl z)).tr (FrX.of (F2.mono (fun a j z => by unfold XS XB at z; omega)))).tr (F3.mono (fun a j z => by omega) (fun a j z => Or.inr z))
    have hr : ∀ a j, ¬ (a = 106 ∨ (a = 100 ∧ (j = 4 ∨ j = 5))) → m_r M3 a j = m_r M a j := FF3.2.1
    have hs := FF3.2.2.2.1
    have hi := FF3.1
    obtain ⟨b1, b2, b3, b4, b5, b6, b7, b8, b9, ⟨i1, p1, b10⟩, ⟨i2, p2, b11⟩, b12, b13⟩ := id hI.1
    have hS : CSH M3 (217 - P) A E len := ⟨b1.ag (fun a j h1 h2 nn => hr a j (fun z => nn (by unfold RX; omega))) (fun a _ _ => hs a), by omega, b3, b4, g4, by rw [g5]; omega, by rw [hr _ _ (by omega)]; exact b7, by rw [hr _ _ (by omega)]; exact b8, b9.ag (fun j _ _ => hr _ j (by omega)) (fun a _ _ => hs a), ⟨i1, p1, b10.ag (fun a h1 h2 j => hr a j (by omega)) (fun a h1 h2 => hs a)⟩, ⟨i2, p2, b11.ag (fun a h1 h2 j => hr a j (by omega)) (fun a h1 h2 => hs a)⟩, by rw [hr _ _ (by omega)]; exact b12, by rw [hs]; exact b13⟩
    have hPd3 : PErep M3 (217 - P) r.2.2.1 (fun p k => nI (r.2.2.2 p k)) (byF (fun x => r.2.2.2 x 0) r.2.2.1) := ⟨by rw [F3.1 _ _ (by omega)]; exact hPd.2.1, hPd.2.2.1, fun p k hp hk => by rw [F3.1 _ _ (by omega)]; exact hPd.2.2.2.1 p k hp hk, fun i hi => ⟨by rw [F3.1 _ _ (by omega)]; exact hby i hi, (byF_ok r.2.2.2 r.2.2.1).1 i hi⟩⟩
    refine ct_textChanged M3 (wRow w r) (hw.row hFA) hS (h127.ag (fun j _ _ => hr _ _ (by omega)) (fun a _ _ => hs a)) hPd3 (hI.2.2.1.fr (fun a h1 h2 j => hi a j (by omega))) ⟨⟨by rw [F3.1 _ _ (by omega), F2.1 _ _ (by unfold XS XB; omega)]; exact e1, fun i hi => absurd hi (by show ¬ i < 0; omega)⟩, g3⟩ ⟨⟨g15, fun j hj => by rw [hi _ _ (by omega)]; exact hI.2.2.2.2.2.2.2.2.2.1.2 j hj⟩, g17, fun i hi => absurd hi (by show ¬ i < 0; omega)⟩ (by omega) (fun M4 hK hC => ?_)
    refine bBo_row_75 _ _ _ _ _ ⟨hC.1.1.1, by rw [hC.1.2.2.2.2.1]; exact hC.pe.1, ?_⟩
    rw [hC.1.2.2.2.2.1, hC.2.1.1]
    exact (h M4 _ A E ((KR.of FF3 (fun a j z => by omega) (fun a j z => by omega)).tr hK) hC).1 rfl
  · rw [if_neg e0] at h
    generalize rwS n (w_tp w) = r at e0 hfl h
    refine bBo_row_16 _ _ _ _ _ _ ⟨by rw [F2.2.2.2.1, F1.2.2.2.1]; exact c0, by rw [F2.2.1, F2.2.2.2.1, F1.2.2.2.1, q2]; exact c4.1, fun z => absurd rfl z, fun _ => ?_⟩
    rw [F2.2.1, q2, hfl.2]
    have F3 : FrS (fun a j => a = 100 ∧ j = 3) M2 (m_si M2 100 3 (nI r.2.1)) := FrS.si (P := fun a j => a = 100 ∧ j = 3) ⟨rfl, rfl⟩ _
    have FF3 : FrX (fun a j => (a = 100 ∧ (j = 1 ∨ j = 3)) ∨ (102 ≤ a ∧ a ≤ 105) ∨ (217 - P ≤ a ∧ a ≤ 219 - P)) (fun a j => a = 106) M (m_si M2 100 3 (nI r.2.1)) := ((F1.mono (fun a j z => by unfold XTT at z; omega) (fun a j z => z)).tr (FrX.of (F2.mono (fun a j z => by unfold XR XA at z; omega)))).tr (FrX.of (F3.mono (fun a j z => by omega)))
    rw [m_i_si, if_neg (by omega), hfl.1]
    have hC := hI.flt hw FF3 (fun a j z => by omega) (fun a j z => z) (v := nI r.2.1) (by rw [m_i_si, if_neg (by omega), F2.1 _ _ (by unfold XR XA; omega)]; exact e1) (by rw [m_i_si, if_pos ⟨rfl, rfl⟩])
    exact (h _ P A E hC.2 hC.1).1 rfl
end CR4
