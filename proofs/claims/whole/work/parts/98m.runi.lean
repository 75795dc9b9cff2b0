/-! ===== the reference: what stands between operators ===== -/
theorem sg_0 {n : Nat} {tp : Nat → Nat} {p : Nat} (h : ¬ tk n tp p = 3) : sg n tp p = 0 := if_neg h
theorem wd_1 {n : Nat} {tp : Nat → Nat} {p : Nat} (h : ¬ tk n tp p = 2) : wd n tp p = 1 := if_neg h
theorem wM_1 : ¬ wM 1 < 0 := by decide +kernel
theorem len1 (L : List Int32) (c : Int32) : (L ++ [c]).length = L.length + 1 := by rw [List.length_append]; rfl
section RUN
variable {n : Nat} {tp : Nat → Nat}
theorem ct_opens {l : Launch} {G : Gx} {d bc bs : Nat} {Φ : OutV → Mm → Prop} (M : Mm) {q o r : Nat} {L : List Int32} (hC : RCs M n tp q o r L) (ho : o ≤ 6) (m : Nat) (hm : m ≤ 3) (hd : 0 < d) (h1 : o < 6 → q + m ≤ n → ∀ M', FrS (XRs r) M M' → RCs M' n tp (q + m) (o + 1) r L → Φ (.inl none) M') (hq : q + m ≤ n) (h0 : ¬ o < 6 → ∀ M', FrS (XRf r) M M' → RFc M' n tp 3 q (q + m) r L.length → Φ (.inl none) M') : Ct l G d mRe_opens bc bs [.ref 206, .int (nI m)] M Φ := by
  have hn := hC.1.1.2.2.1
  have e6 : nI o = 6 ↔ ¬ o < 6 := by rw [show (6 : Int32) = nI 6 from rfl, nI_eq (by omega) (by omega)]; omega
  refine Ct.of rfl (Nat.le_of_ble_eq_true rfl) (bRe_opens_0 _ _ _ ⟨hC.1.1.1.c, ?_⟩)
  rw [hC.2.1, e6]
  refine ⟨fun z => ?_, fun z => CallVC.cps0 (by omega) ?_⟩
  · have z' : o < 6 := by omega
    refine bRe_opens_18 _ _ _ ⟨hC.1.1.1.c, ?_⟩
    rw [hC.2.1, nI_1]
    obtain ⟨F1, hC1⟩ := hC.z8 (o + 1)
    generalize m_si M 206 8 (nI (o + 1)) = M1 at F1 hC1 ⊢
    rw [hC1.1.2.1, nI_add]
    obtain ⟨F2, hC2⟩ := hC1.z4 (q + m) hq
    exact h1 z' hq _ (F1.tr F2) hC2
  · rw [hC.1.2.1]
    refine ct_wrong M hC.1 3 q (by omega) (fun M1 F1 hF1 => bRe_opens_18 _ _ _ ⟨hF1.1.1.c, ?_⟩)
    have hq' := hC.1.2.2.1
    have G1 : FrS X46 M M1 := F1.mono (fun a j k => by unfold X46; omega)
    have hF := hC.f46 G1 hF1
    obtain ⟨F2, hF2⟩ := hF.z8 (m_i M1 206 8 + 1)
    generalize m_si M1 206 8 (m_i M1 206 8 + 1) = M2 at F2 hF2 ⊢
    rw [hF2.1.2.2.2.2.1, nI_add]
    obtain ⟨F3, hF3⟩ := hF2.z4 (q + m) (by omega)
    exact h0 z _ (((G1.mono X46_Rf).tr F2).tr F3) hF3
theorem re_unit {hi : Bool} {sm : Nat → Pr} {o dd : Nat} (ho : o ≤ 6) (hhi : hi = true ↔ o < 6) (h6 : 6 ≤ dd) (hsm : hi = true → RRD n tp mRe_sum sm 0 (o + 1) dd) : RRD n tp mRe_unit (unitF n tp hi sm) 0 o (dd + 1) := by
  intro l G d bc bs Φ M q r L hd hC h0 h
  have hn := hC.1.1.2.2.1
  have hbt := fun j hj => (hC.1.1.2.2.2 j hj).2
  refine Ct.of rfl (Nat.le_of_ble_eq_true rfl) (bRe_unit_0 _ _ ⟨hC.1.1.1.c, CallVC.cps0 (by omega) (ct_signHR M hC.1 (by omega) (fun M1 F1 hA1 => ?_))⟩)
  have hC1 := hC.x4 F1 hA1
  have hpp := rn_idem (n := n) (tp := tp) (q := isb) q
  have hge := rn_ge (n := n) (tp := tp) (q := isb) q
  generalize rn n tp isb q = p at hA1 hC1 hpp hge h ⊢
  refine bRe_unit_4 _ _ _ _ _ _ ⟨hA1.1.1.c, CallVC.cps0 (by omega) (ct_nameHere M1 hA1 hpp (by omega) (fun M2 F2 hA2 => ?_))⟩
  have hC2 := hC1.x4 F2 hA2
  have F12 := F1.tr F2
  clear hC1 hA1 F1 F2
  have hpn := hA2.2.2.1
  have e40 : bt n tp p = 40 ↔ sg n tp p = 40 := by
    rw [show (40 : Int32) = nI 40 from rfl]
    exact (isO_iff (p := p) hbt (a := 40) (b := 41) (by unfold sgn; omega) (by unfold sgn; omega)).1
  obtain ⟨nm1, nm2⟩ := nm_of (wd_rng n tp p)
  refine bRe_unit_9 _ _ _ _ _ _ ⟨hA2.1.1.c, fun _ => CallVC.cps0 (by omega) (ct_isDigitR M2 hbt p (bRe_unit_22 _ _ _ _ _ _ ⟨fun z => ?_, fun z => ?_⟩)), fun z => absurd hA2.2.2.2 z⟩
  · have k1 := ite10.1 z
    refine ⟨fun y => ⟨fun x => ⟨hA2.1.1.c, CallVC.cps0 (by omega) ?_⟩, fun x => ⟨hA2.1.1.c, CallVC.cps0 (by omega) ?_⟩⟩, fun y => ⟨hA2.1.1.c, CallVC.cps0 (by omega) ?_⟩⟩
    · -- nothing fits
      have hw0 : ¬ wM (wd n tp p) < 0 := fun t => (nm1 t).2 y
      have hT : unitF n tp hi sm p = (1, p, []) := by
        unfold unitF
        rw [if_neg (fun t => x (e40.mpr t)), if_neg hw0, if_neg (fun t => k1 t.1), show fcd n tp p = 1 from if_neg k1]
      rw [hT] at h
      rw [hA2.2.1]
      refine ct_wrong M2 hA2 1 p (by omega) (fun M3 F3 hF3 => bRe_unit_107 _ _ _ _ _ ?_)
      have G3 : FrS X46 M2 M3 := F3.mono (fun a j k => by unfold X46; omega)
      exact h.2 (by show ¬ 1 = 0; omega) M3 p L.length ((F12.mono X4_Rf).tr (G3.mono X46_Rf)) (hC2.f46 G3 hF3) (by omega) (by omega)
    · -- opened
      have hs := e40.mp x
      obtain ⟨hp1, hte⟩ := sg_te (n := n) (tp := tp) (p := p) (c := 40) (by unfold sgn; omega) hs
      have enx : rn n tp isb (p + 1) = nx n tp p := by unfold nx; rw [hte]
      refine ct_opens M2 hC2 ho 1 (by omega) (by omega) (fun ho6 _ M3 F3 hC3 => ?_) (by omega) (fun ho6 M3 F3 hF3 => ?_)
      · have hT : unitF n tp hi sm p = cloP n tp 41 (sm (nx n tp p)) := by
          unfold unitF
          rw [if_pos hs, if_pos (hhi.mpr ho6)]
        rw [hT] at h
        unfold cloP at h
        refine bRe_unit_75 _ _ _ _ _ ⟨hC3.1.1.1.c, CallVC.cps0 (by omega) (hsm (hhi.mpr ho6) _ _ _ _ _ _ M3 (p + 1) r L (by omega) hC3 (by omega) ?_)⟩
        rw [enx]
        refine ⟨fun e M4 q4 F4 hC4 hq4 hb4 => ?_, fun e M4 q4 k4 F4 hF4 hb4 hq4 => ?_⟩
        · rw [if_pos e] at h
          have hla : (L ++ eL (sm (nx n tp p)).2.2).length = L.length + (eL (sm (nx n tp p)).2.2).length := List.length_append
          have F14 : FrS (XRs r) M M4 := ((F12.mono X4_Rs).tr F3).tr F4
          have hge4 := rn_ge (n := n) (tp := tp) (q := isb) q4
          refine bRe_unit_79 _ _ _ _ _ ⟨hC4.1.1.1.c, CallVC.cps0 (by omega) (ct_sign M4 hC4.1 (c := 41) (by unfold sgn; omega) (by omega) (fun e5 M5 F5 hA5 => ?_) (fun e5 M5 F5 hF5 => ?_))⟩
          · have hC5 := hC4.x4 F5 hA5
            rw [hq4] at e5 hC5 hge4
            rw [if_pos e5] at h
            obtain ⟨F6, hC6⟩ := hC5.z8 o
            have hte5 := (sg_te (n := n) (tp := tp) (c := 41) (by unfold sgn; omega) e5).2
            refine bRe_unit_85 _ _ _ _ _ ⟨hC5.1.1.1.c, bRe_unit_107 _ _ _ _ _ ?_⟩
            rw [hC5.2.1, nI_pred]
            exact h.1 rfl _ _ ((F14.tr (F5.mono X4_Rs)).tr F6) hC6 rfl (by show 2 * (L ++ eL (sm (nx n tp p)).2.2).length + 3 * q ≤ _; omega)
          · rw [hq4] at e5 hF5 hge4
            rw [if_neg e5] at h
            have hp4 := rn_le (n := n) (tp := tp) (q := isb) q4 hC4.1.2.2.1
            rw [hq4] at hp4
            obtain ⟨F6, hF6⟩ := (hC4.f46 F5 hF5).z8 (m_i M5 206 8 - 1)
            refine bRe_unit_85 _ _ _ _ _ ⟨hF5.1.1.c, bRe_unit_107 _ _ _ _ _ ?_⟩
            exact h.2 (by show ¬ 1 = 0; omega) _ _ _ (((F14.mono XRs_f).tr (F5.mono X46_Rf)).tr F6) hF6 (by omega) (by omega)
        · rw [if_neg e] at h
          refine bRe_unit_79 _ _ _ _ _ ⟨hF4.1.1.1.c, CallVC.cps0 (by omega) (ct_signF M4 hF4.1 _ (bRe_unit_85 _ _ _ _ _ ⟨hF4.1.1.1.c, bRe_unit_107 _ _ _ _ _ ?_⟩))⟩
          obtain ⟨F6, hF6⟩ := hF4.z8 (m_i M4 206 8 - 1)
          exact h.2 e _ _ _ (((((F12.mono X4_Rs).tr F3).mono XRs_f).tr F4).tr F6) hF6 (by omega) hq4
      · have hT : unitF n tp hi sm p = (3, p, []) := by
          unfold unitF
          rw [if_pos hs, if_neg (fun t => ho6 (hhi.mp t))]
        rw [hT] at h
        refine bRe_unit_75 _ _ _ _ _ ⟨hF3.1.1.1.c, CallVC.cps0 (by omega) (rf_sum _ _ _ _ _ _ M3 n tp _ _ _ (by omega) hF3.1 (bRe_unit_79 _ _ _ _ _ ⟨hF3.1.1.1.c, CallVC.cps0 (by omega) (ct_signF M3 hF3.1 _ (bRe_unit_85 _ _ _ _ _ ⟨hF3.1.1.1.c, bRe_unit_107 _ _ _ _ _ ?_⟩))⟩))⟩
        obtain ⟨F6, hF6⟩ := hF3.z8 (m_i M3 206 8 - 1)
        exact h.2 (by show ¬ 3 = 0; omega) _ _ _ (((F12.mono X4_Rf).tr F3).tr F6) hF6 (by omega) (by omega)
    · -- a name
      have hw0 : wM (wd n tp p) < 0 := Classical.byContradiction (fun t => y (nm2 t))
      have htk : tk n tp p = 2 := Classical.byContradiction (fun t => by rw [wd_1 t] at hw0; exact wM_1 hw0)
      have hT : unitF n tp hi sm p = (0, nx n tp p, [wM (wd n tp p)]) := by
        unfold unitF
        rw [if_neg (by rw [sg_0 (by omega)]; omega), if_pos hw0]
      rw [hT] at h
      have hlt := te_gt (n := n) (tp := tp) (p := p) (tk_lt (tp := tp) (by omega))
      refine ct_skipWord M2 hA2 (by omega) (fun M3 F3 hA3 => ?_)
      rw [← tk2_te htk] at hA3
      have hC3 := hC2.x4 F3 hA3
      refine bRe_unit_56 _ _ _ _ _ ⟨hA3.1.1.c, CallVC.cps0 (by omega) ?_⟩
      refine ct_tells M3 hA3.1.1 r _ _ hC3.2.2.1 hC3.2.2.2.1 hC3.2.2.2.2.1 (by omega) (bRe_unit_61 _ _ _ _ _ (bRe_unit_107 _ _ _ _ _ ?_))
      obtain ⟨F4, hC4⟩ := hC3.tell (nmF (wd n tp p))
      refine h.1 rfl _ _ (((F12.mono X4_Rs).tr (F3.mono X4_Rs)).tr F4) ?_ rfl ?_
      · show RCs _ n tp _ o r (L ++ eL [wM (wd n tp p)])
        rw [eL_neg hw0, ← (nm1 hw0).1]
        exact hC4
      · show 2 * (L ++ eL [wM (wd n tp p)]).length + 3 * q ≤ _
        rw [eL_neg hw0, len1]
        omega
  · -- a number
    have k1 := ite10.2 z
    have hw1 : ¬ wM (wd n tp p) < 0 := by rw [wd_1 (by omega)]; exact wM_1
    have hs1 : ¬ sg n tp p = 40 := by rw [sg_0 (by omega)]; omega
    have hlt := te_gt (n := n) (tp := tp) (p := p) (tk_lt (tp := tp) (by omega))
    have hidem : rn n tp isb p = p := hpp
    refine ⟨hA2.1.1.c, CallVC.cps0 (by omega) (ct_numW M2 hA2 0 10000 _ _ rfl (by omega) rfl (by omega) (by omega) (fun ok M3 F3 hA3 => ?_) (fun no M3 F3 hF3 => ?_))⟩
    · rw [hidem] at ok hA3 ⊢
      have hT : unitF n tp hi sm p = (0, nx n tp p, [nI (cvl n tp p)]) := by
        unfold unitF
        rw [if_neg hs1, if_neg hw1, if_pos ok]
      rw [hT] at h
      have hC3 := hC2.x4 F3 hA3
      have hv := cvl_lt n tp p
      generalize cvl n tp p = v at h hv ⊢
      refine bRe_unit_34 _ _ _ _ _ _ ⟨hA3.1.1.c, CallVC.cps0 (by omega) ?_⟩
      refine ct_tells M3 hA3.1.1 r _ _ hC3.2.2.1 hC3.2.2.2.1 hC3.2.2.2.2.1 (by omega) ?_
      obtain ⟨F4, hC4⟩ := hC3.tell 0
      generalize m_si (m_si M3 (233 + r) L.length 0) 206 16 (nI (L.length + 1)) = M4 at F4 hC4 ⊢
      have el := len1 L 0
      refine bRe_unit_40 _ _ _ _ _ ⟨hC4.1.1.1.c, CallVC.cps0 (by omega) ?_⟩
      refine ct_tells M4 hC4.1.1.1 r _ _ hC4.2.2.1 hC4.2.2.2.1 hC4.2.2.2.2.1 (by omega) (bRe_unit_45 _ _ _ _ _ (bRe_unit_107 _ _ _ _ _ ?_))
      obtain ⟨F5, hC5⟩ := hC4.tell (nI v)
      have en : eL [nI v] = [0, nI v] := eL_num (nI_pos (by omega))
      refine h.1 rfl _ _ ((((F12.mono X4_Rs).tr (F3.mono X4_Rs)).tr F4).tr F5) ?_ rfl ?_
      · show RCs _ n tp _ o r (L ++ eL [nI v])
        rw [en, show L ++ [0, nI v] = L ++ [0] ++ [nI v] by rw [List.append_assoc]; rfl]
        exact hC5
      · show 2 * (L ++ eL [nI v]).length + 3 * q ≤ _
        rw [en, List.length_append]
        show 2 * (L.length + 2) + _ ≤ _
        omega
    · rw [hidem] at no hF3
      have hT : unitF n tp hi sm p = (fcd n tp p, p, []) := by
        unfold unitF
        rw [if_neg hs1, if_neg hw1, if_neg no]
      rw [hT] at h
      have hlt2 : p + 1 ≤ rn n tp isd p ∧ rn n tp isd p ≤ n := by rw [← tk1_te k1]; omega
      have hF := hC2.f46 F3 hF3
      refine bRe_unit_34 _ _ _ _ _ _ ⟨hF.1.1.1.c, CallVC.cps0 (by omega) ?_⟩
      refine ct_tells M3 hF.1.1.1 r _ _ hF.2.1 hF.2.2.1 hF.2.2.2 (by omega) ?_
      obtain ⟨F4, hF4⟩ := hF.tell 0
      generalize m_si (m_si M3 (233 + r) L.length 0) 206 16 (nI (L.length + 1)) = M4 at F4 hF4 ⊢
      refine bRe_unit_40 _ _ _ _ _ ⟨hF4.1.1.1.c, CallVC.cps0 (by omega) ?_⟩
      refine ct_tells M4 hF4.1.1.1 r _ _ hF4.2.1 hF4.2.2.1 hF4.2.2.2 (by omega) (bRe_unit_45 _ _ _ _ _ (bRe_unit_107 _ _ _ _ _ ?_))
      obtain ⟨F5, hF5⟩ := hF4.tell 0
      exact h.2 (fcd_ne _ _ _) _ _ _ ((((F12.mono X4_Rf).tr (F3.mono X46_Rf)).tr F4).tr F5) hF5 (by omega) (by omega)
theorem re_ops : ∀ k, k ≤ 6 → RRD n tp mRe_unit (opS n tp k) 0 (6 - k) (3 * k + 7)
  | 0, _ => re_unit (hi := false) (sm := fun p => (0, p, [])) (dd := 6) (by omega) ⟨fun z => absurd z (by decide), fun z => absurd z (by omega)⟩ (by omega) (fun z => absurd z (by decide))
  | k + 1, hk => by
    have ih := re_ops k (by omega)
    have e : 6 - (k + 1) + 1 = 6 - k := by omega
    refine re_unit (hi := true) (sm := sumF n tp (opS n tp k)) (dd := 3 * k + 9) (by omega) ⟨fun _ => by omega, fun _ => rfl⟩ (by omega) (fun _ => ?_)
    rw [e]
    exact re_sum (by omega) (re_product (by omega) ih)
theorem re_sums (k : Nat) (hk : k ≤ 6) : RRD n tp mRe_sum (sumS n tp k) 0 (6 - k) (3 * k + 9) := re_sum (by omega) (re_product (by omega) (re_ops k hk))
end RUN
