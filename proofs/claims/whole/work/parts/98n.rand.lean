/-! ===== the reference: and, or ===== -/
theorem re_ands_loop {n : Nat} {tp : Nat → Nat} {f : Nat → Pr} {o dd : Nat} (hf : RRD n tp mRe_asked f 1 o dd) {l : Launch} {G : Gx} {d bc bs : Nat} {Φ : OutV → Mm → Prop} (M : Mm) {q0 r : Nat} {L0 : List Int32} (T : Pr) (hd : dd + 1 < d) (hd3 : 4 < d) (h0 : 2 * L0.length ≤ 3 * q0 + 10) (h : LrPost M n tp 1 q0 o r L0 T Φ) : ∀ k q S M1, FrS (XRs r) M M1 → RCs M1 n tp q o r (L0 ++ eL S) → 500 ≤ q + k → 2 * (L0 ++ eL S).length + 3 * q0 ≤ 3 * q + 2 * L0.length + 1 → joinL n tp (isW n tp 15) (fun _ => -16) f k (rn n tp isb q) S = T → Ev l G d mRe_ands 4 [.ref 206] [] M1 bc bs Φ := by
  intro k
  have both : ∀ k q S M1, (∀ k', k = k' + 1 → ∀ q S M1, FrS (XRs r) M M1 → RCs M1 n tp q o r (L0 ++ eL S) → 500 ≤ q + k' → 2 * (L0 ++ eL S).length + 3 * q0 ≤ 3 * q + 2 * L0.length + 1 → joinL n tp (isW n tp 15) (fun _ => -16) f k' (rn n tp isb q) S = T → Ev l G d mRe_ands 4 [.ref 206] [] M1 bc bs Φ) → FrS (XRs r) M M1 → RCs M1 n tp q o r (L0 ++ eL S) → 500 ≤ q + k → 2 * (L0 ++ eL S).length + 3 * q0 ≤ 3 * q + 2 * L0.length + 1 → joinL n tp (isW n tp 15) (fun _ => -16) f k (rn n tp isb q) S = T → Ev l G d mRe_ands 4 [.ref 206] [] M1 bc bs Φ := fun k q S M1 ih F1 hC hk hb hT => by
    have hn := hC.1.1.2.2.1
    have hge := rn_ge (n := n) (tp := tp) (q := isb) q
    have hpp := rn_idem (n := n) (tp := tp) (q := isb) q
    refine bRe_ands_4 _ _ (CallVC.cps0 (by omega) (ct_five M1 _ _ _ _ _ (bRe_ands_14 _ _ _ _ ⟨hC.1.1.1.c, CallVC.cps0 (by omega) (ct_eats M1 hC.1 (w := 15) (by omega) (by decide +kernel) (by omega) (fun e M2 F2 hA2 => bRe_ands_17 _ _ _ ⟨fun z => absurd z (by decide), fun _ => ⟨hA2.1.1.c, CallVC.cps0 (by omega) ?_⟩⟩) (fun e M2 F2 hA2 => bRe_ands_17 _ _ _ ⟨fun _ => ?_, fun z => absurd rfl z⟩))⟩)))
    · generalize rn n tp isb q = p at hge hpp e hA2 hT
      have htk := wd_tk e (by omega)
      have hpt : p < n := tk_lt (n := n) (tp := tp) (by omega)
      have hlt := te_gt (n := n) (tp := tp) (p := p) hpt
      have hC2 := hC.x4 F2 hA2
      obtain ⟨k', rfl⟩ : ∃ k', k = k' + 1 := ⟨k - 1, by omega⟩
      have hT' : (if isW n tp 15 p = true then (if (f (nx n tp p)).1 = 0 then joinL n tp (isW n tp 15) (fun _ => -16) f k' (f (nx n tp p)).2.1 (S ++ (f (nx n tp p)).2.2 ++ [-16]) else ((f (nx n tp p)).1, (f (nx n tp p)).2.1, [])) else (0, p, S)) = T := hT
      rw [if_pos (show isW n tp 15 p = true from decide_eq_true e)] at hT'
      refine hf _ _ _ _ _ _ M2 (te n tp p) r _ (by omega) hC2 (by omega) ?_
      have enx : rn n tp isb (te n tp p) = nx n tp p := rfl
      rw [enx]
      refine ⟨fun e3 M3 q3 F3 hC3 hq3 hb3 => ?_, fun e3 M3 q3 k3 F3 hF3 hb3 hq3 => ?_⟩
      · rw [if_pos e3] at hT'
        have hq3n := hC3.1.2.2.1
        have hla : (L0 ++ eL S ++ eL (f (nx n tp p)).2.2).length = (L0 ++ eL S).length + (eL (f (nx n tp p)).2.2).length := List.length_append
        refine bRe_ands_24 _ _ ⟨hC3.1.1.1.c, CallVC.cps0 (by omega) ?_⟩
        refine ct_tells M3 hC3.1.1.1 r _ _ hC3.2.2.1 hC3.2.2.2.1 hC3.2.2.2.2.1 (by omega) (bRe_ands_30 _ _ ?_)
        obtain ⟨F4, hC4⟩ := hC3.tell 18
        generalize m_si (m_si M3 (233 + r) (L0 ++ eL S ++ eL (f (nx n tp p)).2.2).length 18) 206 16 (nI ((L0 ++ eL S ++ eL (f (nx n tp p)).2.2).length + 1)) = M4 at F4 hC4 ⊢
        have hs : (-16 : Int32) < 0 := by decide
        rw [show (18 : Int32) = encS (-16) by decide, app_as L0 _ S _ _ rfl hs] at hC4
        have el : (L0 ++ eL (S ++ (f (nx n tp p)).2.2 ++ [-16])).length = (L0 ++ eL S ++ eL (f (nx n tp p)).2.2).length + 1 := by rw [← app_as L0 _ S _ _ rfl hs, List.length_append (bs := [encS (-16)])]; rfl
        generalize S ++ (f (nx n tp p)).2.2 ++ [-16] = S' at hC4 hT' el
        exact ih k' rfl q3 S' M4 (((F1.tr (F2.mono X4_Rs)).tr F3).tr F4) hC4 (by omega) (by omega) (by rw [hq3]; exact hT')
      · rw [if_neg e3] at hT'
        subst hT'
        refine bRe_ands_24 _ _ ⟨hF3.1.1.1.c, CallVC.cps0 (by omega) ?_⟩
        refine ct_tells M3 hF3.1.1.1 r _ _ hF3.2.1 hF3.2.2.1 hF3.2.2.2 (by omega) (bRe_ands_30 _ _ ?_)
        obtain ⟨F4, hF4⟩ := hF3.tell 18
        generalize m_si (m_si M3 (233 + r) k3 18) 206 16 (nI (k3 + 1)) = M4 at F4 hF4 ⊢
        have fin := h.2 e3 M4 q3 (k3 + 1) ((((F1.tr (F2.mono X4_Rs)).mono XRs_f).tr F3).tr F4) hF4 (by omega) hq3
        exact bRe_ands_4 _ _ (CallVC.cps0 (by omega) (ct_five M4 _ _ _ _ _ (bRe_ands_14 _ _ _ _ ⟨hF4.1.1.1.c, CallVC.cps0 (by omega) (ct_eatsF M4 hF4.1 _ (by omega) (bRe_ands_17 _ _ _ ⟨fun _ => fin, fun z => absurd rfl z⟩))⟩)))
    · have hT2 : T = (0, rn n tp isb q, S) := by
        cases k with
        | zero => exact hT.symm
        | succ k =>
          have hT' : (if isW n tp 15 (rn n tp isb q) = true then _ else (0, rn n tp isb q, S)) = T := hT
          rw [if_neg (show ¬ isW n tp 15 (rn n tp isb q) = true from fun z => e (of_decide_eq_true z))] at hT'
          exact hT'.symm
      subst hT2
      exact h.1 rfl M2 _ (F1.tr (F2.mono X4_Rs)) (hC.x4 F2 hA2) hpp (by show 2 * (L0 ++ eL S).length + _ ≤ _; omega)
  induction k with
  | zero => exact fun q S M1 => both 0 q S M1 (fun k' e => absurd e (by omega))
  | succ k ih => exact fun q S M1 => both (k + 1) q S M1 (fun k' e => by cases e; exact ih)
theorem re_ands {n : Nat} {tp : Nat → Nat} {f : Nat → Pr} {o dd : Nat} (h3 : 4 ≤ dd) (hf : RRD n tp mRe_asked f 1 o dd) : RRD n tp mRe_ands (joinF n tp (isW n tp 15) (fun _ => -16) f) 1 o (dd + 1) := by
  intro l G d bc bs Φ M q r L hd hC h0 h
  refine Ct.of rfl (Nat.le_of_ble_eq_true rfl) (bRe_ands_0 _ _ ⟨hC.1.1.1.c, CallVC.cps0 (by omega) (hf _ _ _ _ _ _ M q r L (by omega) hC h0 ⟨fun e M1 q1 F1 hC1 hq1 hb1 => ?_, fun e M1 q1 k1 F1 hF1 hb1 hq1 => ?_⟩)⟩)
  · refine re_ands_loop hf M _ (by omega) (by omega) h0 h 500 q1 _ M1 F1 hC1 (by omega) (by omega) ?_
    unfold joinF
    rw [if_pos e, hq1]
  · unfold joinF at h
    rw [if_neg e] at h
    have fin := h.2 e M1 q1 k1 F1 hF1 hb1 hq1
    exact bRe_ands_4 _ _ (CallVC.cps0 (by omega) (ct_five M1 _ _ _ _ _ (bRe_ands_14 _ _ _ _ ⟨hF1.1.1.1.c, CallVC.cps0 (by omega) (ct_eatsF M1 hF1.1 _ (by omega) (bRe_ands_17 _ _ _ ⟨fun _ => fin, fun z => absurd rfl z⟩))⟩)))
theorem re_ors_loop {n : Nat} {tp : Nat → Nat} {f : Nat → Pr} {o dd : Nat} (hf : RRD n tp mRe_ands f 1 o dd) {l : Launch} {G : Gx} {d bc bs : Nat} {Φ : OutV → Mm → Prop} (M : Mm) {q0 r : Nat} {L0 : List Int32} (T : Pr) (hd : dd + 1 < d) (hd3 : 4 < d) (h0 : 2 * L0.length ≤ 3 * q0 + 10) (h : LrPost M n tp 1 q0 o r L0 T Φ) : ∀ k q S M1, FrS (XRs r) M M1 → RCs M1 n tp q o r (L0 ++ eL S) → 500 ≤ q + k → 2 * (L0 ++ eL S).length + 3 * q0 ≤ 3 * q + 2 * L0.length + 1 → joinL n tp (isW n tp 14) (fun _ => -17) f k (rn n tp isb q) S = T → Ev l G d mRe_ors 4 [.ref 206] [] M1 bc bs Φ := by
  intro k
  have both : ∀ k q S M1, (∀ k', k = k' + 1 → ∀ q S M1, FrS (XRs r) M M1 → RCs M1 n tp q o r (L0 ++ eL S) → 500 ≤ q + k' → 2 * (L0 ++ eL S).length + 3 * q0 ≤ 3 * q + 2 * L0.length + 1 → joinL n tp (isW n tp 14) (fun _ => -17) f k' (rn n tp isb q) S = T → Ev l G d mRe_ors 4 [.ref 206] [] M1 bc bs Φ) → FrS (XRs r) M M1 → RCs M1 n tp q o r (L0 ++ eL S) → 500 ≤ q + k → 2 * (L0 ++ eL S).length + 3 * q0 ≤ 3 * q + 2 * L0.length + 1 → joinL n tp (isW n tp 14) (fun _ => -17) f k (rn n tp isb q) S = T → Ev l G d mRe_ors 4 [.ref 206] [] M1 bc bs Φ := fun k q S M1 ih F1 hC hk hb hT => by
    have hn := hC.1.1.2.2.1
    have hge := rn_ge (n := n) (tp := tp) (q := isb) q
    have hpp := rn_idem (n := n) (tp := tp) (q := isb) q
    refine bRe_ors_4 _ _ ⟨hC.1.1.1.c, CallVC.cps0 (by omega) (ct_eats M1 hC.1 (w := 14) (by omega) (by decide +kernel) (by omega) (fun e M2 F2 hA2 => bRe_ors_11 _ _ _ ⟨fun z => absurd z (by decide), fun _ => ⟨hA2.1.1.c, CallVC.cps0 (by omega) ?_⟩⟩) (fun e M2 F2 hA2 => bRe_ors_11 _ _ _ ⟨fun _ => ?_, fun z => absurd rfl z⟩))⟩
    · generalize rn n tp isb q = p at hge hpp e hA2 hT
      have htk := wd_tk e (by omega)
      have hpt : p < n := tk_lt (n := n) (tp := tp) (by omega)
      have hlt := te_gt (n := n) (tp := tp) (p := p) hpt
      have hC2 := hC.x4 F2 hA2
      obtain ⟨k', rfl⟩ : ∃ k', k = k' + 1 := ⟨k - 1, by omega⟩
      have hT' : (if isW n tp 14 p = true then (if (f (nx n tp p)).1 = 0 then joinL n tp (isW n tp 14) (fun _ => -17) f k' (f (nx n tp p)).2.1 (S ++ (f (nx n tp p)).2.2 ++ [-17]) else ((f (nx n tp p)).1, (f (nx n tp p)).2.1, [])) else (0, p, S)) = T := hT
      rw [if_pos (show isW n tp 14 p = true from decide_eq_true e)] at hT'
      refine hf _ _ _ _ _ _ M2 (te n tp p) r _ (by omega) hC2 (by omega) ?_
      have enx : rn n tp isb (te n tp p) = nx n tp p := rfl
      rw [enx]
      refine ⟨fun e3 M3 q3 F3 hC3 hq3 hb3 => ?_, fun e3 M3 q3 k3 F3 hF3 hb3 hq3 => ?_⟩
      · rw [if_pos e3] at hT'
        have hq3n := hC3.1.2.2.1
        have hla : (L0 ++ eL S ++ eL (f (nx n tp p)).2.2).length = (L0 ++ eL S).length + (eL (f (nx n tp p)).2.2).length := List.length_append
        refine bRe_ors_18 _ _ ⟨hC3.1.1.1.c, CallVC.cps0 (by omega) ?_⟩
        refine ct_tells M3 hC3.1.1.1 r _ _ hC3.2.2.1 hC3.2.2.2.1 hC3.2.2.2.2.1 (by omega) (bRe_ors_24 _ _ ?_)
        obtain ⟨F4, hC4⟩ := hC3.tell 19
        generalize m_si (m_si M3 (233 + r) (L0 ++ eL S ++ eL (f (nx n tp p)).2.2).length 19) 206 16 (nI ((L0 ++ eL S ++ eL (f (nx n tp p)).2.2).length + 1)) = M4 at F4 hC4 ⊢
        have hs : (-17 : Int32) < 0 := by decide
        rw [show (19 : Int32) = encS (-17) by decide, app_as L0 _ S _ _ rfl hs] at hC4
        have el : (L0 ++ eL (S ++ (f (nx n tp p)).2.2 ++ [-17])).length = (L0 ++ eL S ++ eL (f (nx n tp p)).2.2).length + 1 := by rw [← app_as L0 _ S _ _ rfl hs, List.length_append (bs := [encS (-17)])]; rfl
        generalize S ++ (f (nx n tp p)).2.2 ++ [-17] = S' at hC4 hT' el
        exact ih k' rfl q3 S' M4 (((F1.tr (F2.mono X4_Rs)).tr F3).tr F4) hC4 (by omega) (by omega) (by rw [hq3]; exact hT')
      · rw [if_neg e3] at hT'
        subst hT'
        refine bRe_ors_18 _ _ ⟨hF3.1.1.1.c, CallVC.cps0 (by omega) ?_⟩
        refine ct_tells M3 hF3.1.1.1 r _ _ hF3.2.1 hF3.2.2.1 hF3.2.2.2 (by omega) (bRe_ors_24 _ _ ?_)
        obtain ⟨F4, hF4⟩ := hF3.tell 19
        generalize m_si (m_si M3 (233 + r) k3 19) 206 16 (nI (k3 + 1)) = M4 at F4 hF4 ⊢
        have fin := h.2 e3 M4 q3 (k3 + 1) ((((F1.tr (F2.mono X4_Rs)).mono XRs_f).tr F3).tr F4) hF4 (by omega) hq3
        exact bRe_ors_4 _ _ ⟨hF4.1.1.1.c, CallVC.cps0 (by omega) (ct_eatsF M4 hF4.1 _ (by omega) (bRe_ors_11 _ _ _ ⟨fun _ => fin, fun z => absurd rfl z⟩))⟩
    · have hT2 : T = (0, rn n tp isb q, S) := by
        cases k with
        | zero => exact hT.symm
        | succ k =>
          have hT' : (if isW n tp 14 (rn n tp isb q) = true then _ else (0, rn n tp isb q, S)) = T := hT
          rw [if_neg (show ¬ isW n tp 14 (rn n tp isb q) = true from fun z => e (of_decide_eq_true z))] at hT'
          exact hT'.symm
      subst hT2
      exact h.1 rfl M2 _ (F1.tr (F2.mono X4_Rs)) (hC.x4 F2 hA2) hpp (by show 2 * (L0 ++ eL S).length + _ ≤ _; omega)
  induction k with
  | zero => exact fun q S M1 => both 0 q S M1 (fun k' e => absurd e (by omega))
  | succ k ih => exact fun q S M1 => both (k + 1) q S M1 (fun k' e => by cases e; exact ih)
theorem re_ors {n : Nat} {tp : Nat → Nat} {f : Nat → Pr} {o dd : Nat} (h3 : 4 ≤ dd) (hf : RRD n tp mRe_ands f 1 o dd) : RRD n tp mRe_ors (joinF n tp (isW n tp 14) (fun _ => -17) f) 1 o (dd + 1) := by
  intro l G d bc bs Φ M q r L hd hC h0 h
  refine Ct.of rfl (Nat.le_of_ble_eq_true rfl) (bRe_ors_0 _ _ ⟨hC.1.1.1.c, CallVC.cps0 (by omega) (hf _ _ _ _ _ _ M q r L (by omega) hC h0 ⟨fun e M1 q1 F1 hC1 hq1 hb1 => ?_, fun e M1 q1 k1 F1 hF1 hb1 hq1 => ?_⟩)⟩)
  · refine re_ors_loop hf M _ (by omega) (by omega) h0 h 500 q1 _ M1 F1 hC1 (by omega) (by omega) ?_
    unfold joinF
    rw [if_pos e, hq1]
  · unfold joinF at h
    rw [if_neg e] at h
    have fin := h.2 e M1 q1 k1 F1 hF1 hb1 hq1
    exact bRe_ors_4 _ _ ⟨hF1.1.1.1.c, CallVC.cps0 (by omega) (ct_eatsF M1 hF1.1 _ (by omega) (bRe_ors_11 _ _ _ ⟨fun _ => fin, fun z => absurd rfl z⟩))⟩
