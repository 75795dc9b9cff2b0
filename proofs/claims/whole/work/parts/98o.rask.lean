/-! ===== the reference: claims ===== -/
theorem wd_len {n : Nat} {tp : Nat → Nat} {p w : Nat} (h : wd n tp p = w) (hw : ¬ w = 1) : rn n tp isl p - p = (wTx w).length := by
  have htk := wd_tk h hw
  unfold wd at h
  rw [if_pos htk] at h
  unfold tw at h
  have := twF_tx (txL tp p (rn n tp isl p)) 23 0 (by omega)
  rcases this with q | q
  · have q' : twL (txL tp p (rn n tp isl p)) = 1 := q
    omega
  · have q' : wTx (twL (txL tp p (rn n tp isl p))) = txL tp p (rn n tp isl p) := q
    rw [h] at q'
    rw [q', txL_len]
theorem wd_16 {n : Nat} {tp : Nat → Nat} {p : Nat} (h : wd n tp p = 16) : p < n ∧ te n tp p = p + 3 := by
  have htk := wd_tk h (by omega)
  have hl := wd_len h (by omega)
  have h3 : (wTx 16).length = 3 := by decide +kernel
  have hge := rn_ge (n := n) (tp := tp) (q := isl) p
  refine ⟨tk_lt (tp := tp) (by omega), ?_⟩
  rw [tk2_te htk]
  omega
section RAS
variable {n : Nat} {tp : Nat → Nat} {l : Launch} {G : Gx} {d bc bs : Nat} {Φ : OutV → Mm → Prop}
theorem ct_askedF (M : Mm) {fc fp q r k : Nat} (hF : RFc M n tp fc fp q r k) (hk : k < 800) (hq : q + 1 ≤ 600) (hd : 7 < d) (h : ∀ M', FrS (XRf r) M M' → RFc M' n tp fc fp (q + 1) r (k + 1) → Φ (.inl none) M') : Ct l G d mRe_asked bc bs [.ref 206] M Φ := by
  refine Ct.of rfl (Nat.le_of_ble_eq_true rfl) (bRe_asked_0 _ _ (CallVC.cps0 (by omega) (ct_five M _ _ _ _ _ (bRe_asked_12 _ _ _ _ _ ⟨hF.1.1.1.c, CallVC.cps0 (by omega) (ct_isWordF M hF.1 _ (bRe_asked_15 _ _ _ _ ⟨fun _ => ⟨hF.1.1.1.c, CallVC.cps0 (by omega) (ct_signHF M hF.1 (bRe_asked_50 _ _ _ _ ⟨fun _ => ⟨hF.1.1.1.c, CallVC.cps0 (by omega) (rf_sum _ _ _ _ _ _ M n tp _ _ _ (by omega) hF.1 (bRe_asked_87 _ _ _ ⟨hF.1.1.1.c, CallVC.cps0 (by omega) (ct_signHF M hF.1 (bRe_asked_91 _ _ _ _ ⟨hF.1.1.1.c, fun _ => bRe_asked_126 _ _ _ ⟨hF.1.1.1.c, ?_⟩, fun z => absurd z hF.1.ne⟩))⟩))⟩, fun z => absurd z (by decide)⟩))⟩, fun z => absurd rfl z⟩))⟩))))
  rw [hF.1.2.2.2.2.1, nI_1]
  obtain ⟨F1, hF1⟩ := hF.z4 (q + 1) hq
  generalize m_si M 206 4 (nI (q + 1)) = M1 at F1 hF1 ⊢
  refine CallVC.cps0 (by omega) (rf_sum _ _ _ _ _ _ M1 n tp _ _ _ (by omega) hF1.1 (bRe_asked_140 _ _ _ ⟨fun _ => ⟨fun _ => ⟨hF1.1.1.1.c, CallVC.cps0 (by omega) ?_⟩, fun z => absurd z (by decide)⟩, fun z => absurd z (by decide)⟩))
  refine ct_tells M1 hF1.1.1.1 r _ _ hF1.2.1 hF1.2.2.1 hF1.2.2.2 hk (bRe_asked_168 _ _ _ ?_)
  obtain ⟨F2, hF2⟩ := hF1.tell 16
  exact h _ (F1.tr F2) hF2
theorem ct_andsF (M : Mm) {fc fp q r k : Nat} (hF : RFc M n tp fc fp q r k) (hk : k < 800) (hq : q + 1 ≤ 600) (hd : 8 < d) (h : ∀ M', FrS (XRf r) M M' → RFc M' n tp fc fp (q + 1) r (k + 1) → Φ (.inl none) M') : Ct l G d mRe_ands bc bs [.ref 206] M Φ :=
  Ct.of rfl (Nat.le_of_ble_eq_true rfl) (bRe_ands_0 _ _ ⟨hF.1.1.1.c, CallVC.cps0 (by omega) (ct_askedF M hF hk hq (by omega) (fun M1 F1 hF1 => bRe_ands_4 _ _ (CallVC.cps0 (by omega) (ct_five M1 _ _ _ _ _ (bRe_ands_14 _ _ _ _ ⟨hF1.1.1.1.c, CallVC.cps0 (by omega) (ct_eatsF M1 hF1.1 _ (by omega) (bRe_ands_17 _ _ _ ⟨fun _ => h M1 F1 hF1, fun z => absurd rfl z⟩))⟩)))))⟩)
theorem ct_orsF (M : Mm) {fc fp q r k : Nat} (hF : RFc M n tp fc fp q r k) (hk : k < 800) (hq : q + 1 ≤ 600) (hd : 9 < d) (h : ∀ M', FrS (XRf r) M M' → RFc M' n tp fc fp (q + 1) r (k + 1) → Φ (.inl none) M') : Ct l G d mRe_ors bc bs [.ref 206] M Φ :=
  Ct.of rfl (Nat.le_of_ble_eq_true rfl) (bRe_ors_0 _ _ ⟨hF.1.1.1.c, CallVC.cps0 (by omega) (ct_andsF M hF hk hq (by omega) (fun M1 F1 hF1 => bRe_ors_4 _ _ ⟨hF1.1.1.1.c, CallVC.cps0 (by omega) (ct_eatsF M1 hF1.1 _ (by omega) (bRe_ors_11 _ _ _ ⟨fun _ => h M1 F1 hF1, fun z => absurd rfl z⟩))⟩))⟩)
end RAS
section RAT
variable {n : Nat} {tp : Nat → Nat}
/-- not -/
theorem as_not {cl : Nat → Pr} {o dd : Nat} (ho : o ≤ 6) (h9 : 9 ≤ dd) (hcl : o < 6 → RRD n tp mRe_asked cl 1 (o + 1) dd) {l : Launch} {G : Gx} {d bc bs : Nat} {Φ : OutV → Mm → Prop} (M M2 : Mm) {q p r : Nat} {L : List Int32} (u : Value) (F12 : FrS X4 M M2) (hge : q ≤ p) (hd : dd + 1 < d) (hC2 : RCs M2 n tp p o r L) (h0 : 2 * L.length ≤ 3 * q + 10) (hw : wd n tp p = 16) (T : Pr) (hT1 : o < 6 → T = notP (cl (nx n tp p))) (hT0 : ¬ o < 6 → T = (3, p, [])) (h : LrPost M n tp 1 q o r L T Φ) : CallVC l G d mRe_asked 23 [.ref 206, u] [] mRe_opens [.ref 206, .int (nI 3)] M2 bc bs Φ := by
  have hn := hC2.1.1.2.2.1
  obtain ⟨hp1, hte⟩ := wd_16 hw
  have hten := te_gt (n := n) (tp := tp) hp1
  have enx : rn n tp isb (p + 3) = nx n tp p := by unfold nx; rw [hte]
  refine CallVC.cps0 (by omega) (ct_opens M2 hC2 ho 3 (by omega) (by omega) (fun ho6 _ M3 F3 hC3 => ?_) (by omega) (fun ho6 M3 F3 hF3 => ?_))
  · have hT := hT1 ho6
    subst hT
    unfold notP at h
    refine bRe_asked_23 _ _ _ ⟨hC3.1.1.1.c, CallVC.cps0 (by omega) (hcl ho6 _ _ _ _ _ _ M3 (p + 3) r L (by omega) hC3 (by omega) ?_)⟩
    rw [enx]
    refine ⟨fun e M4 q4 F4 hC4 hq4 hb4 => ?_, fun e M4 q4 k4 F4 hF4 hb4 hq4 => ?_⟩
    · rw [if_pos e] at h
      have hq4n := hC4.1.2.2.1
      refine bRe_asked_27 _ _ _ ⟨hC4.1.1.1.c, CallVC.cps0 (by omega) ?_⟩
      refine ct_tells M4 hC4.1.1.1 r _ _ hC4.2.2.1 hC4.2.2.2.1 hC4.2.2.2.2.1 (by omega) ?_
      obtain ⟨F5, hC5⟩ := hC4.tell 17
      have el := len1 (L ++ eL (cl (nx n tp p)).2.2) 17
      generalize m_si (m_si M4 (233 + r) (L ++ eL (cl (nx n tp p)).2.2).length 17) 206 16 (nI ((L ++ eL (cl (nx n tp p)).2.2).length + 1)) = M5 at F5 hC5 ⊢
      obtain ⟨F6, hC6⟩ := hC5.z8 o
      refine bRe_asked_33 _ _ _ ⟨hC5.1.1.1.c, ?_⟩
      rw [hC5.2.1, nI_pred]
      have ee : L ++ eL ((cl (nx n tp p)).2.2 ++ [-8]) = L ++ eL (cl (nx n tp p)).2.2 ++ [17] := by
        rw [eL_app, eL_neg (by decide), List.append_assoc]
        rfl
      refine h.1 rfl _ q4 (((((F12.mono X4_Rs).tr F3).tr F4).tr F5).tr F6) ?_ hq4 ?_
      · show RCs _ n tp q4 o r (L ++ eL ((cl (nx n tp p)).2.2 ++ [-8]))
        rw [ee]; exact hC6
      · show 2 * (L ++ eL ((cl (nx n tp p)).2.2 ++ [-8])).length + _ ≤ _
        rw [ee]; omega
    · rw [if_neg e] at h
      refine bRe_asked_27 _ _ _ ⟨hF4.1.1.1.c, CallVC.cps0 (by omega) ?_⟩
      refine ct_tells M4 hF4.1.1.1 r _ _ hF4.2.1 hF4.2.2.1 hF4.2.2.2 (by omega) ?_
      obtain ⟨F5, hF5⟩ := hF4.tell 17
      generalize m_si (m_si M4 (233 + r) k4 17) 206 16 (nI (k4 + 1)) = M5 at F5 hF5 ⊢
      obtain ⟨F6, hF6⟩ := hF5.z8 (m_i M5 206 8 - 1)
      exact bRe_asked_33 _ _ _ ⟨hF5.1.1.1.c, h.2 e _ _ _ ((((((F12.mono X4_Rs).tr F3).mono XRs_f).tr F4).tr F5).tr F6) hF6 (by omega) hq4⟩
  · have hT := hT0 ho6
    subst hT
    refine bRe_asked_23 _ _ _ ⟨hF3.1.1.1.c, CallVC.cps0 (by omega) (ct_askedF M3 hF3 (by omega) (by omega) (by omega) (fun M4 F4 hF4 => ?_))⟩
    refine bRe_asked_27 _ _ _ ⟨hF4.1.1.1.c, CallVC.cps0 (by omega) ?_⟩
    refine ct_tells M4 hF4.1.1.1 r _ _ hF4.2.1 hF4.2.2.1 hF4.2.2.2 (by omega) ?_
    obtain ⟨F5, hF5⟩ := hF4.tell 17
    generalize m_si (m_si M4 (233 + r) (L.length + 1) 17) 206 16 (nI (L.length + 1 + 1)) = M5 at F5 hF5 ⊢
    obtain ⟨F6, hF6⟩ := hF5.z8 (m_i M5 206 8 - 1)
    exact bRe_asked_33 _ _ _ ⟨hF5.1.1.1.c, h.2 (by show ¬ 3 = 0; omega) _ _ _ (((((F12.mono X4_Rf).tr F3).tr F4).tr F5).tr F6) hF6 (by omega) (by omega)⟩
/-- [ .. ] -/
theorem as_grp {cl : Nat → Pr} {o dd : Nat} (ho : o ≤ 6) (h9 : 9 ≤ dd) (hor : o < 6 → RRD n tp mRe_ors (orF n tp cl) 1 (o + 1) dd) {l : Launch} {G : Gx} {d bc bs : Nat} {Φ : OutV → Mm → Prop} (M M2 : Mm) {q p r : Nat} {L : List Int32} (u : Value) (F12 : FrS X4 M M2) (hge : q ≤ p) (hd : dd + 1 < d) (hC2 : RCs M2 n tp p o r L) (h0 : 2 * L.length ≤ 3 * q + 10) (hs : sg n tp p = 91) (T : Pr) (hT1 : o < 6 → T = cloP n tp 93 (orF n tp cl (nx n tp p))) (hT0 : ¬ o < 6 → T = (3, p, [])) (h : LrPost M n tp 1 q o r L T Φ) : CallVC l G d mRe_asked 60 [.ref 206, u] [] mRe_opens [.ref 206, .int (nI 1)] M2 bc bs Φ := by
  have hn := hC2.1.1.2.2.1
  obtain ⟨hp1, hte⟩ := sg_te (n := n) (tp := tp) (p := p) (c := 91) (by unfold sgn; omega) hs
  have enx : rn n tp isb (p + 1) = nx n tp p := by unfold nx; rw [hte]
  refine CallVC.cps0 (by omega) (ct_opens M2 hC2 ho 1 (by omega) (by omega) (fun ho6 _ M3 F3 hC3 => ?_) (by omega) (fun ho6 M3 F3 hF3 => ?_))
  · have hT := hT1 ho6
    subst hT
    unfold cloP at h
    refine bRe_asked_60 _ _ _ ⟨hC3.1.1.1.c, CallVC.cps0 (by omega) (hor ho6 _ _ _ _ _ _ M3 (p + 1) r L (by omega) hC3 (by omega) ?_)⟩
    rw [enx]
    refine ⟨fun e M4 q4 F4 hC4 hq4 hb4 => ?_, fun e M4 q4 k4 F4 hF4 hb4 hq4 => ?_⟩
    · rw [if_pos e] at h
      have hla : (L ++ eL (orF n tp cl (nx n tp p)).2.2).length = L.length + (eL (orF n tp cl (nx n tp p)).2.2).length := List.length_append
      have F14 : FrS (XRs r) M M4 := ((F12.mono X4_Rs).tr F3).tr F4
      have hge4 := rn_ge (n := n) (tp := tp) (q := isb) q4
      refine bRe_asked_64 _ _ _ ⟨hC4.1.1.1.c, CallVC.cps0 (by omega) (ct_sign M4 hC4.1 (c := 93) (by unfold sgn; omega) (by omega) (fun e5 M5 F5 hA5 => ?_) (fun e5 M5 F5 hF5 => ?_))⟩
      · have hC5 := hC4.x4 F5 hA5
        rw [hq4] at e5 hC5 hge4
        rw [if_pos e5] at h
        obtain ⟨F6, hC6⟩ := hC5.z8 o
        have hte5 := (sg_te (n := n) (tp := tp) (c := 93) (by unfold sgn; omega) e5).2
        refine bRe_asked_70 _ _ _ ⟨hC5.1.1.1.c, ?_⟩
        rw [hC5.2.1, nI_pred]
        exact h.1 rfl _ _ ((F14.tr (F5.mono X4_Rs)).tr F6) hC6 rfl (by show 2 * (L ++ eL (orF n tp cl (nx n tp p)).2.2).length + 3 * q ≤ _; omega)
      · rw [hq4] at e5 hF5 hge4
        rw [if_neg e5] at h
        have hp4 := rn_le (n := n) (tp := tp) (q := isb) q4 hC4.1.2.2.1
        rw [hq4] at hp4
        obtain ⟨F6, hF6⟩ := (hC4.f46 F5 hF5).z8 (m_i M5 206 8 - 1)
        exact bRe_asked_70 _ _ _ ⟨hF5.1.1.c, h.2 (by show ¬ 1 = 0; omega) _ _ _ (((F14.mono XRs_f).tr (F5.mono X46_Rf)).tr F6) hF6 (by omega) (by omega)⟩
    · rw [if_neg e] at h
      obtain ⟨F6, hF6⟩ := hF4.z8 (m_i M4 206 8 - 1)
      exact bRe_asked_64 _ _ _ ⟨hF4.1.1.1.c, CallVC.cps0 (by omega) (ct_signF M4 hF4.1 _ (bRe_asked_70 _ _ _ ⟨hF4.1.1.1.c, h.2 e _ _ _ (((((F12.mono X4_Rs).tr F3).mono XRs_f).tr F4).tr F6) hF6 (by omega) hq4⟩))⟩
  · have hT := hT0 ho6
    subst hT
    refine bRe_asked_60 _ _ _ ⟨hF3.1.1.1.c, CallVC.cps0 (by omega) (ct_orsF M3 hF3 (by omega) (by omega) (by omega) (fun M4 F4 hF4 => ?_))⟩
    obtain ⟨F6, hF6⟩ := hF4.z8 (m_i M4 206 8 - 1)
    exact bRe_asked_64 _ _ _ ⟨hF4.1.1.1.c, CallVC.cps0 (by omega) (ct_signF M4 hF4.1 _ (bRe_asked_70 _ _ _ ⟨hF4.1.1.1.c, h.2 (by show ¬ 3 = 0; omega) _ _ _ ((((F12.mono X4_Rf).tr F3).tr F4).tr F6) hF6 (by omega) (by omega)⟩))⟩
/-- < > = -/
theorem as_cmp {sm : Nat → Pr} {o dd : Nat} (h6 : 6 ≤ dd) (hsm : RRD n tp mRe_sum sm 0 o dd) {l : Launch} {G : Gx} {d bc bs : Nat} {Φ : OutV → Mm → Prop} (M M2 : Mm) {q p r : Nat} {L : List Int32} (u : Value) (F12 : FrS X4 M M2) (hge : q ≤ p) (hpp : rn n tp isb p = p) (hd : dd + 1 < d) (hC2 : RCs M2 n tp p o r L) (h0 : 2 * L.length ≤ 3 * q + 10) (h : LrPost M n tp 1 q o r L (cmpP n tp sm (sm p)) Φ) : CallVC l G d mRe_asked 87 [.ref 206, u] [] mRe_sum [.ref 206] M2 bc bs Φ := by
  have hn := hC2.1.1.2.2.1
  have hbt := fun j hj => (hC2.1.1.2.2.2 j hj).2
  unfold cmpP at h
  refine CallVC.cps0 (by omega) (hsm _ _ _ _ _ _ M2 p r L (by omega) hC2 (by omega) ?_)
  rw [hpp]
  refine ⟨fun e M3 q3 F3 hC3 hq3 hb3 => ?_, fun e M3 q3 k3 F3 hF3 hb3 hq3 => ?_⟩
  · rw [if_pos e] at h
    have hla : (L ++ eL (sm p).2.2).length = L.length + (eL (sm p).2.2).length := List.length_append
    have hge3 := rn_ge (n := n) (tp := tp) (q := isb) q3
    refine bRe_asked_87 _ _ _ ⟨hC3.1.1.1.c, CallVC.cps0 (by omega) (ct_signHR M3 hC3.1 (by omega) (fun M4 F4 hA4 => ?_))⟩
    have hC4 := hC3.x4 F4 hA4
    have hp1n := hA4.2.2.1
    rw [hq3] at hA4 hC4 hge3 hp1n ⊢
    generalize hp1 : (sm p).2.1 = p1 at h hA4 hC4 hge3 hp1n ⊢
    have F14 : FrS (XRs r) M M4 := ((F12.mono X4_Rs).tr F3).tr (F4.mono X4_Rs)
    have s60 : sgn 60 := by unfold sgn; omega
    have s61 : sgn 61 := by unfold sgn; omega
    have s62 : sgn 62 := by unfold sgn; omega
    obtain ⟨e60, e62⟩ := isO_iff (p := p1) hbt s60 s62
    obtain ⟨-, e61⟩ := isO_iff (p := p1) hbt s60 s61
    have go : (sg n tp p1 = 60 ∨ sg n tp p1 = 62 ∨ sg n tp p1 = 61) → Ev l G d mRe_asked 126 [.ref 206, .int (bt n tp p1)] [] M4 bc bs Φ := fun y => by
      rw [if_pos y] at h
      have hpt : p1 < n ∧ te n tp p1 = p1 + 1 := by
        rcases y with y | y | y
        · exact sg_te s60 y
        · exact sg_te s62 y
        · exact sg_te s61 y
      have enx : rn n tp isb (p1 + 1) = nx n tp p1 := by unfold nx; rw [hpt.2]
      obtain ⟨F5, hC5⟩ := hC4.z4 (p1 + 1) hpt.1
      refine bRe_asked_126 _ _ _ ⟨hC4.1.1.1.c, CallVC.cps0 (by omega) ?_⟩
      rw [hC4.1.2.1, nI_1]
      generalize m_si M4 206 4 (nI (p1 + 1)) = M5 at F5 hC5 ⊢
      refine hsm _ _ _ _ _ _ M5 (p1 + 1) r _ (by omega) hC5 (by omega) ?_
      rw [enx]
      refine ⟨fun e6 M6 q6 F6 hC6 hq6 hb6 => ?_, fun e6 M6 q6 k6 F6 hF6 hb6 hq6 => ?_⟩
      · rw [if_pos e6] at h
        have hq6n := hC6.1.2.2.1
        have fin : ∀ c, c = encS (stF (sg n tp p1)) → stF (sg n tp p1) < 0 → Ct l G (d - 1) mRe_tells 0 0 [.ref 206, .int c] M6 (contΦ l G d mRe_asked 168 [.ref 206, .int (bt n tp p1)] [] bc bs Φ) := fun c hc hs => by
          refine ct_tells M6 hC6.1.1.1 r _ c hC6.2.2.1 hC6.2.2.2.1 hC6.2.2.2.2.1 (by omega) (bRe_asked_168 _ _ _ ?_)
          obtain ⟨F7, hC7⟩ := hC6.tell c
          have el := len1 (L ++ eL (sm p).2.2 ++ eL (sm (nx n tp p1)).2.2) c
          rw [hc] at F7 hC7 el ⊢
          have ee := app_as L (sm (nx n tp p1)).2.2 (sm p).2.2 _ _ rfl hs
          rw [ee] at hC7 el
          refine h.1 rfl _ q6 (((F14.tr F5).tr F6).tr F7) hC7 hq6 ?_
          show 2 * (L ++ eL ((sm p).2.2 ++ (sm (nx n tp p1)).2.2 ++ [stF (sg n tp p1)])).length + _ ≤ _
          omega
        refine bRe_asked_140 _ _ _ ⟨fun z => ⟨fun x => ⟨hC6.1.1.1.c, CallVC.cps0 (by omega) (fin _ ?_ ?_)⟩, fun x => ⟨hC6.1.1.1.c, CallVC.cps0 (by omega) (fin _ ?_ ?_)⟩⟩, fun z => ⟨hC6.1.1.1.c, CallVC.cps0 (by omega) (fin _ ?_ ?_)⟩⟩
        · rw [(y.resolve_left (fun t => z (e60.mpr t))).resolve_left (fun t => x (e62.mpr t))]; decide
        · rw [(y.resolve_left (fun t => z (e60.mpr t))).resolve_left (fun t => x (e62.mpr t))]; decide
        · rw [e62.mp x]; decide
        · rw [e62.mp x]; decide
        · rw [e60.mp z]; decide
        · rw [e60.mp z]; decide
      · rw [if_neg e6] at h
        have fin : ∀ c, Ct l G (d - 1) mRe_tells 0 0 [.ref 206, .int c] M6 (contΦ l G d mRe_asked 168 [.ref 206, .int (bt n tp p1)] [] bc bs Φ) := fun c => by
          refine ct_tells M6 hF6.1.1.1 r _ c hF6.2.1 hF6.2.2.1 hF6.2.2.2 (by omega) (bRe_asked_168 _ _ _ ?_)
          obtain ⟨F7, hF7⟩ := hF6.tell c
          exact h.2 e6 _ _ _ ((((F14.tr F5).mono XRs_f).tr F6).tr F7) hF7 (by omega) (by omega)
        exact bRe_asked_140 _ _ _ ⟨fun z => ⟨fun x => ⟨hF6.1.1.1.c, CallVC.cps0 (by omega) (fin _)⟩, fun x => ⟨hF6.1.1.1.c, CallVC.cps0 (by omega) (fin _)⟩⟩, fun z => ⟨hF6.1.1.1.c, CallVC.cps0 (by omega) (fin _)⟩⟩
    refine bRe_asked_91 _ _ _ _ ⟨hA4.1.1.c, fun z => absurd hA4.2.2.2 z, fun _ => ⟨fun z => go (Or.inl (e60.mp z)), fun z60 => ⟨fun z => go (Or.inr (Or.inl (e62.mp z))), fun z62 => ⟨fun z => go (Or.inr (Or.inr (e61.mp z))), fun z61 => CallVC.cps0 (by omega) ?_⟩⟩⟩⟩
    have no : ¬ (sg n tp p1 = 60 ∨ sg n tp p1 = 62 ∨ sg n tp p1 = 61) := fun t => by
      rcases t with t | t | t
      · exact z60 (e60.mpr t)
      · exact z62 (e62.mpr t)
      · exact z61 (e61.mpr t)
    rw [if_neg no] at h
    rw [hA4.2.1]
    refine ct_wrong M4 hA4 1 p1 (by omega) (fun M5 F5 hF5 => ?_)
    have G5 : FrS X46 M4 M5 := F5.mono (fun a j k => by unfold X46; omega)
    have hc5 := hC4.f46 G5 hF5
    refine bRe_asked_126 _ _ _ ⟨hF5.1.1.c, CallVC.cps0 (by omega) ?_⟩
    rw [hF5.2.2.2.2.1, nI_1]
    obtain ⟨F6, hF6⟩ := hc5.z4 (p1 + 1) (by omega)
    generalize m_si M5 206 4 (nI (p1 + 1)) = M6 at F6 hF6 ⊢
    refine rf_sum _ _ _ _ _ _ M6 n tp _ _ _ (by omega) hF6.1 ?_
    have fin : ∀ c, Ct l G (d - 1) mRe_tells 0 0 [.ref 206, .int c] M6 (contΦ l G d mRe_asked 168 [.ref 206, .int (bt n tp p1)] [] bc bs Φ) := fun c => by
      refine ct_tells M6 hF6.1.1.1 r _ c hF6.2.1 hF6.2.2.1 hF6.2.2.2 (by omega) (bRe_asked_168 _ _ _ ?_)
      obtain ⟨F7, hF7⟩ := hF6.tell c
      exact h.2 (by show ¬ 1 = 0; omega) _ _ _ ((((F14.mono XRs_f).tr (G5.mono X46_Rf)).tr F6).tr F7) hF7 (by omega) (by omega)
    exact bRe_asked_140 _ _ _ ⟨fun z => ⟨fun x => ⟨hF6.1.1.1.c, CallVC.cps0 (by omega) (fin _)⟩, fun x => ⟨hF6.1.1.1.c, CallVC.cps0 (by omega) (fin _)⟩⟩, fun z => ⟨hF6.1.1.1.c, CallVC.cps0 (by omega) (fin _)⟩⟩
  · rw [if_neg e] at h
    refine bRe_asked_87 _ _ _ ⟨hF3.1.1.1.c, CallVC.cps0 (by omega) (ct_signHF M3 hF3.1 (bRe_asked_91 _ _ _ _ ⟨hF3.1.1.1.c, fun _ => bRe_asked_126 _ _ _ ⟨hF3.1.1.1.c, CallVC.cps0 (by omega) ?_⟩, fun z => absurd z hF3.1.ne⟩))⟩
    rw [hF3.1.2.2.2.2.1, nI_1]
    obtain ⟨F6, hF6⟩ := hF3.z4 (q3 + 1) (by omega)
    generalize m_si M3 206 4 (nI (q3 + 1)) = M6 at F6 hF6 ⊢
    refine rf_sum _ _ _ _ _ _ M6 n tp _ _ _ (by omega) hF6.1 ?_
    refine bRe_asked_140 _ _ _ ⟨fun _ => ⟨fun _ => ⟨hF6.1.1.1.c, CallVC.cps0 (by omega) ?_⟩, fun z => absurd z (by decide)⟩, fun z => absurd z (by decide)⟩
    refine ct_tells M6 hF6.1.1.1 r _ _ hF6.2.1 hF6.2.2.1 hF6.2.2.2 (by omega) (bRe_asked_168 _ _ _ ?_)
    obtain ⟨F7, hF7⟩ := hF6.tell 16
    exact h.2 e _ _ _ ((((F12.mono X4_Rf).tr F3).tr F6).tr F7) hF7 (by omega) (by omega)
theorem re_asked {hi : Bool} {sm cl : Nat → Pr} {o dd : Nat} (ho : o ≤ 6) (hhi : hi = true ↔ o < 6) (h9 : 9 ≤ dd) (hsm : RRD n tp mRe_sum sm 0 o dd) (hcl : o < 6 → RRD n tp mRe_asked cl 1 (o + 1) dd) (hor : o < 6 → RRD n tp mRe_ors (orF n tp cl) 1 (o + 1) dd) : RRD n tp mRe_asked (clmF n tp hi sm cl) 1 o (dd + 1) := by
  intro l G d bc bs Φ M q r L hd hC h0 h
  have hbt := fun j hj => (hC.1.1.2.2.2 j hj).2
  refine Ct.of rfl (Nat.le_of_ble_eq_true rfl) (bRe_asked_0 _ _ (CallVC.cps0 (by omega) (ct_five M _ _ _ _ _ (bRe_asked_12 _ _ _ _ _ ⟨hC.1.1.1.c, CallVC.cps0 (by omega) (ct_isWord M hC.1 (w := 16) (by omega) (by decide +kernel) (by omega) (fun M1 F1 hA1 => ?_))⟩))))
  have hC1 := hC.x4 F1 hA1
  have hpp := rn_idem (n := n) (tp := tp) (q := isb) q
  have hge := rn_ge (n := n) (tp := tp) (q := isb) q
  generalize rn n tp isb q = p at hA1 hC1 hpp hge h ⊢
  refine bRe_asked_15 _ _ _ _ ⟨fun z => ⟨hA1.1.1.c, CallVC.cps0 (by omega) (ct_signHR M1 hA1 (by omega) (fun M2 F2 hA2 => ?_))⟩, fun z => ⟨hA1.1.1.c, ?_⟩⟩
  · have n16 := ite10.1 z
    rw [hpp] at hA2 ⊢
    have hC2 := hC1.x4 F2 hA2
    have e91 : bt n tp p = 91 ↔ sg n tp p = 91 := by
      rw [show (91 : Int32) = nI 91 from rfl]
      exact (isO_iff (p := p) hbt (a := 91) (b := 93) (by unfold sgn; omega) (by unfold sgn; omega)).1
    refine bRe_asked_50 _ _ _ _ ⟨fun y => ⟨hA2.1.1.c, ?_⟩, fun y => ⟨hA2.1.1.c, ?_⟩⟩
    · have hT : clmF n tp hi sm cl p = cmpP n tp sm (sm p) := by
        unfold clmF
        rw [if_neg (fun t => t.elim n16 (fun t => y (e91.mpr t)))]
      rw [hT] at h
      exact as_cmp (by omega) hsm M M2 _ (F1.tr F2) hge hpp (by omega) hC2 h0 h
    · have hs := e91.mp y
      refine as_grp ho (by omega) hor M M2 _ (F1.tr F2) hge (by omega) hC2 h0 hs _ (fun o6 => ?_) (fun o6 => ?_) h
      · unfold clmF
        rw [if_pos (Or.inr hs), if_pos (hhi.mpr o6), if_neg n16]
      · unfold clmF
        rw [if_pos (Or.inr hs), if_neg (fun t => o6 (hhi.mp t))]
  · have hw := ite10.2 z
    refine as_not ho (by omega) hcl M M1 _ F1 hge (by omega) hC1 h0 hw _ (fun o6 => ?_) (fun o6 => ?_) h
    · unfold clmF
      rw [if_pos (Or.inl hw), if_pos (hhi.mpr o6), if_pos hw]
    · unfold clmF
      rw [if_pos (Or.inl hw), if_neg (fun t => o6 (hhi.mp t))]
theorem re_clms : ∀ k, k ≤ 6 → RRD n tp mRe_asked (clmS n tp k) 1 (6 - k) (3 * k + 10)
  | 0, _ => re_asked (hi := false) (sm := sumS n tp 0) (cl := fun p => (0, p, [])) (dd := 9) (by omega) ⟨fun z => absurd z (by decide), fun z => absurd z (by omega)⟩ (by omega) (re_sums 0 (by omega)) (fun z => absurd z (by omega)) (fun z => absurd z (by omega))
  | k + 1, hk => by
    have ih := re_clms k (by omega)
    have e : 6 - (k + 1) + 1 = 6 - k := by omega
    refine re_asked (hi := true) (sm := sumS n tp (k + 1)) (cl := clmS n tp k) (dd := 3 * k + 12) (by omega) ⟨fun _ => by omega, fun _ => rfl⟩ (by omega) (re_sums (k + 1) hk) (fun _ => ?_) (fun _ => ?_)
    · rw [e]
      intro l G d bc bs Φ M q r L hd
      exact ih l G d bc bs Φ M q r L (by omega)
    · rw [e]
      exact re_ors (by omega) (re_ands (by omega) ih)
end RAT
