/-! ===== the reference: products and sums ===== -/
theorem isO_iff {n : Nat} {tp : Nat → Nat} {p a b : Nat} (hb : ∀ j, j < n → tp j < 256) (ha : sgn a) (hb2 : sgn b) : (bt n tp p = nI a ↔ sg n tp p = a) ∧ (bt n tp p = nI b ↔ sg n tp p = b) :=
  ⟨by rw [sg_iff ha]; exact bt_b hb (by have := ha.2.1; omega), by rw [sg_iff hb2]; exact bt_b hb (by have := hb2.2.1; omega)⟩
theorem app_as (A B : List Int32) (S T : List Int32) (e : Int32) (h : T = S ++ B ++ [e]) (he : e < 0) : A ++ eL S ++ eL B ++ [encS e] = A ++ eL T := by
  rw [h, eL_app, eL_app, eL_neg he]
  simp only [List.append_assoc]
theorem re_product_loop {n : Nat} {tp : Nat → Nat} {f : Nat → Pr} {o dd : Nat} (hf : RRD n tp mRe_unit f 0 o dd) {l : Launch} {G : Gx} {d bc bs : Nat} {Φ : OutV → Mm → Prop} (M : Mm) {q0 r : Nat} {L0 : List Int32} (T : Pr) (hd : dd + 1 < d) (hd3 : 3 < d) (h0 : 2 * L0.length ≤ 3 * q0 + 10) (h : LrPost M n tp 0 q0 o r L0 T Φ) : ∀ k p S M1, FrS (XRs r) M M1 → RCs M1 n tp p o r (L0 ++ eL S) → rn n tp isb p = p → 500 ≤ p + k → 2 * (L0 ++ eL S).length + 3 * q0 ≤ 3 * p + 2 * L0.length + 1 → joinL n tp (isO n tp 42 47) (fun p => stF (sg n tp p)) f k p S = T → Ev l G d mRe_product 9 [.ref 206, .int (bt n tp p)] [] M1 bc bs Φ := by
  intro k
  have sA : sgn 42 := by unfold sgn; omega
  have sB : sgn 47 := by unfold sgn; omega
  have stop : ∀ k p S M1, FrS (XRs r) M M1 → RCs M1 n tp p o r (L0 ++ eL S) → rn n tp isb p = p → 2 * (L0 ++ eL S).length + 3 * q0 ≤ 3 * p + 2 * L0.length + 1 → ¬ (sg n tp p = 42 ∨ sg n tp p = 47) → joinL n tp (isO n tp 42 47) (fun p => stF (sg n tp p)) f k p S = T → Φ (.inl none) M1 := fun k p S M1 F1 hC hp hb no hT => by
    have e : T = (0, p, S) := by
      cases k with
      | zero => exact hT.symm
      | succ k =>
        have hT' : (if isO n tp 42 47 p = true then _ else (0, p, S)) = T := hT
        rw [if_neg (show ¬ isO n tp 42 47 p = true from fun z => no (of_decide_eq_true z))] at hT'
        exact hT'.symm
    subst e
    exact h.1 rfl M1 p F1 hC hp hb
  have go : ∀ k p S M1, (∀ p S M1, FrS (XRs r) M M1 → RCs M1 n tp p o r (L0 ++ eL S) → rn n tp isb p = p → 500 ≤ p + k → 2 * (L0 ++ eL S).length + 3 * q0 ≤ 3 * p + 2 * L0.length + 1 → joinL n tp (isO n tp 42 47) (fun p => stF (sg n tp p)) f k p S = T → Ev l G d mRe_product 9 [.ref 206, .int (bt n tp p)] [] M1 bc bs Φ) → FrS (XRs r) M M1 → RCs M1 n tp p o r (L0 ++ eL S) → rn n tp isb p = p → 500 ≤ p + (k + 1) → 2 * (L0 ++ eL S).length + 3 * q0 ≤ 3 * p + 2 * L0.length + 1 → (sg n tp p = 42 ∨ sg n tp p = 47) → joinL n tp (isO n tp 42 47) (fun p => stF (sg n tp p)) f (k + 1) p S = T → Ev l G d mRe_product 28 [.ref 206, .int (bt n tp p)] [] M1 bc bs Φ := fun k p S M1 ih F1 hC hp hk hb yes hT => by
    have hn := hC.1.1.2.2.1
    have hbt := fun j hj => (hC.1.1.2.2.2 j hj).2
    obtain ⟨eA, eB⟩ := isO_iff (p := p) hbt sA sB
    have hpt : p < n ∧ te n tp p = p + 1 := by
      rcases yes with y | y
      · exact sg_te sA y
      · exact sg_te sB y
    have hT' : (if isO n tp 42 47 p = true then (if (f (nx n tp p)).1 = 0 then joinL n tp (isO n tp 42 47) (fun p => stF (sg n tp p)) f k (f (nx n tp p)).2.1 (S ++ (f (nx n tp p)).2.2 ++ [stF (sg n tp p)]) else ((f (nx n tp p)).1, (f (nx n tp p)).2.1, [])) else (0, p, S)) = T := hT
    rw [if_pos (show isO n tp 42 47 p = true from decide_eq_true yes)] at hT'
    obtain ⟨F2, hC2⟩ := hC.z4 (p + 1) hpt.1
    have enx : rn n tp isb (p + 1) = nx n tp p := by unfold nx; rw [hpt.2]
    refine bRe_product_28 _ _ _ ⟨hC.1.1.1.c, CallVC.cps0 (by omega) ?_⟩
    rw [hC.1.2.1, nI_1]
    generalize m_si M1 206 4 (nI (p + 1)) = M2 at F2 hC2 ⊢
    refine hf _ _ _ _ _ _ M2 (p + 1) r _ (by omega) hC2 (by omega) ?_
    rw [enx]
    refine ⟨fun e M3 q3 F3 hC3 hq3 hb3 => ?_, fun e M3 q3 k3 F3 hF3 hb3 hq3 => ?_⟩
    · rw [if_pos e] at hT'
      have hq3n := hC3.1.2.2.1
      have hla : (L0 ++ eL S ++ eL (f (nx n tp p)).2.2).length = (L0 ++ eL S).length + (eL (f (nx n tp p)).2.2).length := List.length_append
      have cont : ∀ c, c = encS (stF (sg n tp p)) → stF (sg n tp p) < 0 → Ct l G (d - 1) mRe_tells 0 0 [.ref 206, .int c] M3 (contΦ l G d mRe_product 59 [.ref 206, .int (bt n tp p)] [] bc bs Φ) := fun c hc hs => by
        refine ct_tells M3 hC3.1.1.1 r _ c hC3.2.2.1 hC3.2.2.2.1 hC3.2.2.2.2.1 (by omega) ?_
        obtain ⟨F4, hC4⟩ := hC3.tell c
        generalize m_si (m_si M3 (233 + r) (L0 ++ eL S ++ eL (f (nx n tp p)).2.2).length c) 206 16 (nI ((L0 ++ eL S ++ eL (f (nx n tp p)).2.2).length + 1)) = M4 at F4 hC4 ⊢
        rw [hc, app_as L0 _ S _ _ rfl hs] at hC4
        have el : (L0 ++ eL (S ++ (f (nx n tp p)).2.2 ++ [stF (sg n tp p)])).length = (L0 ++ eL S ++ eL (f (nx n tp p)).2.2).length + 1 := by rw [← app_as L0 _ S _ _ rfl hs, List.length_append (bs := [encS (stF (sg n tp p))])]; rfl
        generalize S ++ (f (nx n tp p)).2.2 ++ [stF (sg n tp p)] = S' at hC4 hT' el
        refine bRe_product_59 _ _ _ ⟨hC4.1.1.1.c, CallVC.cps0 (by omega) (ct_signHR M4 hC4.1 (by omega) (fun M5 F5 hA5 => bRe_product_63 _ _ _ _ ?_))⟩
        have hge := rn_ge (n := n) (tp := tp) (q := isb) q3
        have hC5 := hC4.x4 F5 hA5
        rw [hq3] at hA5 hC5 hge ⊢
        exact ih _ _ M5 ((((F1.tr F2).tr F3).tr F4).tr (F5.mono X4_Rs)) hC5 (by rw [← hq3]; exact rn_idem _) (by omega) (by omega) hT'
      refine bRe_product_42 _ _ _ ⟨fun z => ⟨hC3.1.1.1.c, CallVC.cps0 (by omega) (cont _ ?_ ?_)⟩, fun z => ⟨hC3.1.1.1.c, CallVC.cps0 (by omega) (cont _ ?_ ?_)⟩⟩
      · rw [show sg n tp p = 47 from yes.resolve_left (fun y => z (eA.mpr y))]; decide
      · rw [show sg n tp p = 47 from yes.resolve_left (fun y => z (eA.mpr y))]; decide
      · rw [eA.mp z]; decide
      · rw [eA.mp z]; decide
    · rw [if_neg e] at hT'
      subst hT'
      have cont : ∀ c, Ct l G (d - 1) mRe_tells 0 0 [.ref 206, .int c] M3 (contΦ l G d mRe_product 59 [.ref 206, .int (bt n tp p)] [] bc bs Φ) := fun c => by
        refine ct_tells M3 hF3.1.1.1 r _ c hF3.2.1 hF3.2.2.1 hF3.2.2.2 (by omega) ?_
        obtain ⟨F4, hF4⟩ := hF3.tell c
        generalize m_si (m_si M3 (233 + r) k3 c) 206 16 (nI (k3 + 1)) = M4 at F4 hF4 ⊢
        refine bRe_product_59 _ _ _ ⟨hF4.1.1.1.c, CallVC.cps0 (by omega) (ct_signHF M4 hF4.1 (bRe_product_63 _ _ _ _ (bRe_product_9 _ _ _ ⟨hF4.1.1.1.c, fun _ => ?_, fun z => absurd z hF4.1.ne⟩)))⟩
        exact h.2 e M4 q3 (k3 + 1) ((((F1.tr F2).mono XRs_f).tr F3).tr F4) hF4 (by omega) hq3
      exact bRe_product_42 _ _ _ ⟨fun z => ⟨hF3.1.1.1.c, CallVC.cps0 (by omega) (cont _)⟩, fun z => ⟨hF3.1.1.1.c, CallVC.cps0 (by omega) (cont _)⟩⟩
  have both : ∀ k p S M1, (∀ k', k = k' + 1 → ∀ p S M1, FrS (XRs r) M M1 → RCs M1 n tp p o r (L0 ++ eL S) → rn n tp isb p = p → 500 ≤ p + k' → 2 * (L0 ++ eL S).length + 3 * q0 ≤ 3 * p + 2 * L0.length + 1 → joinL n tp (isO n tp 42 47) (fun p => stF (sg n tp p)) f k' p S = T → Ev l G d mRe_product 9 [.ref 206, .int (bt n tp p)] [] M1 bc bs Φ) → FrS (XRs r) M M1 → RCs M1 n tp p o r (L0 ++ eL S) → rn n tp isb p = p → 500 ≤ p + k → 2 * (L0 ++ eL S).length + 3 * q0 ≤ 3 * p + 2 * L0.length + 1 → joinL n tp (isO n tp 42 47) (fun p => stF (sg n tp p)) f k p S = T → Ev l G d mRe_product 9 [.ref 206, .int (bt n tp p)] [] M1 bc bs Φ := fun k p S M1 ih F1 hC hp hk hb hT => by
    have hn := hC.1.1.2.2.1
    have hbt := fun j hj => (hC.1.1.2.2.2 j hj).2
    obtain ⟨eA, eB⟩ := isO_iff (p := p) hbt sA sB
    have yes : (sg n tp p = 42 ∨ sg n tp p = 47) → Ev l G d mRe_product 28 [.ref 206, .int (bt n tp p)] [] M1 bc bs Φ := fun y => by
      have hpt : p < n := by
        rcases y with y | y
        · exact (sg_te sA y).1
        · exact (sg_te sB y).1
      cases k with
      | zero => omega
      | succ k => exact go k p S M1 (ih k rfl) F1 hC hp hk hb y hT
    exact bRe_product_9 _ _ _ ⟨hC.1.1.1.c, fun z => absurd hC.1.2.2.2 z, fun _ => ⟨fun z => yes (Or.inl (eA.mp z)), fun z => ⟨fun y => stop k p S M1 F1 hC hp hb (fun t => t.elim (fun t => z (eA.mpr t)) (fun t => y (eB.mpr t))) hT, fun y => yes (Or.inr (eB.mp y))⟩⟩⟩
  induction k with
  | zero => exact fun p S M1 => both 0 p S M1 (fun k' e => absurd e (by omega))
  | succ k ih => exact fun p S M1 => both (k + 1) p S M1 (fun k' e => by cases e; exact ih)
theorem re_product {n : Nat} {tp : Nat → Nat} {f : Nat → Pr} {o dd : Nat} (h3 : 3 ≤ dd) (hf : RRD n tp mRe_unit f 0 o dd) : RRD n tp mRe_product (joinF n tp (isO n tp 42 47) (fun p => stF (sg n tp p)) f) 0 o (dd + 1) := by
  intro l G d bc bs Φ M q r L hd hC h0 h
  refine Ct.of rfl (Nat.le_of_ble_eq_true rfl) (bRe_product_0 _ _ ⟨hC.1.1.1.c, CallVC.cps0 (by omega) (hf _ _ _ _ _ _ M q r L (by omega) hC h0 ⟨fun e M1 q1 F1 hC1 hq1 hb1 => ?_, fun e M1 q1 k1 F1 hF1 hb1 hq1 => ?_⟩)⟩)
  · refine bRe_product_4 _ _ _ ⟨hC1.1.1.1.c, CallVC.cps0 (by omega) (ct_signHR M1 hC1.1 (by omega) (fun M2 F2 hA2 => bRe_product_8 _ _ _ _ ?_))⟩
    have hge := rn_ge (n := n) (tp := tp) (q := isb) q1
    have hC2 := hC1.x4 F2 hA2
    rw [hq1] at hA2 hC2 hge ⊢
    refine re_product_loop hf M _ (by omega) (by omega) h0 h 500 _ _ M2 (F1.tr (F2.mono X4_Rs)) hC2 (by rw [← hq1]; exact rn_idem _) (by omega) (by omega) ?_
    unfold joinF
    rw [if_pos e]
  · refine bRe_product_4 _ _ _ ⟨hF1.1.1.1.c, CallVC.cps0 (by omega) (ct_signHF M1 hF1.1 (bRe_product_8 _ _ _ _ (bRe_product_9 _ _ _ ⟨hF1.1.1.1.c, fun _ => ?_, fun z => absurd z hF1.1.ne⟩)))⟩
    unfold joinF at h
    rw [if_neg e] at h
    exact h.2 e M1 q1 k1 F1 hF1 hb1 hq1
theorem re_sum_loop {n : Nat} {tp : Nat → Nat} {f : Nat → Pr} {o dd : Nat} (hf : RRD n tp mRe_product f 0 o dd) {l : Launch} {G : Gx} {d bc bs : Nat} {Φ : OutV → Mm → Prop} (M : Mm) {q0 r : Nat} {L0 : List Int32} (T : Pr) (hd : dd + 1 < d) (hd3 : 3 < d) (h0 : 2 * L0.length ≤ 3 * q0 + 10) (h : LrPost M n tp 0 q0 o r L0 T Φ) : ∀ k p S M1, FrS (XRs r) M M1 → RCs M1 n tp p o r (L0 ++ eL S) → rn n tp isb p = p → 500 ≤ p + k → 2 * (L0 ++ eL S).length + 3 * q0 ≤ 3 * p + 2 * L0.length + 1 → joinL n tp (isO n tp 43 45) (fun p => stF (sg n tp p)) f k p S = T → Ev l G d mRe_sum 9 [.ref 206, .int (bt n tp p)] [] M1 bc bs Φ := by
  intro k
  have sA : sgn 43 := by unfold sgn; omega
  have sB : sgn 45 := by unfold sgn; omega
  have stop : ∀ k p S M1, FrS (XRs r) M M1 → RCs M1 n tp p o r (L0 ++ eL S) → rn n tp isb p = p → 2 * (L0 ++ eL S).length + 3 * q0 ≤ 3 * p + 2 * L0.length + 1 → ¬ (sg n tp p = 43 ∨ sg n tp p = 45) → joinL n tp (isO n tp 43 45) (fun p => stF (sg n tp p)) f k p S = T → Φ (.inl none) M1 := fun k p S M1 F1 hC hp hb no hT => by
    have e : T = (0, p, S) := by
      cases k with
      | zero => exact hT.symm
      | succ k =>
        have hT' : (if isO n tp 43 45 p = true then _ else (0, p, S)) = T := hT
        rw [if_neg (show ¬ isO n tp 43 45 p = true from fun z => no (of_decide_eq_true z))] at hT'
        exact hT'.symm
    subst e
    exact h.1 rfl M1 p F1 hC hp hb
  have go : ∀ k p S M1, (∀ p S M1, FrS (XRs r) M M1 → RCs M1 n tp p o r (L0 ++ eL S) → rn n tp isb p = p → 500 ≤ p + k → 2 * (L0 ++ eL S).length + 3 * q0 ≤ 3 * p + 2 * L0.length + 1 → joinL n tp (isO n tp 43 45) (fun p => stF (sg n tp p)) f k p S = T → Ev l G d mRe_sum 9 [.ref 206, .int (bt n tp p)] [] M1 bc bs Φ) → FrS (XRs r) M M1 → RCs M1 n tp p o r (L0 ++ eL S) → rn n tp isb p = p → 500 ≤ p + (k + 1) → 2 * (L0 ++ eL S).length + 3 * q0 ≤ 3 * p + 2 * L0.length + 1 → (sg n tp p = 43 ∨ sg n tp p = 45) → joinL n tp (isO n tp 43 45) (fun p => stF (sg n tp p)) f (k + 1) p S = T → Ev l G d mRe_sum 28 [.ref 206, .int (bt n tp p)] [] M1 bc bs Φ := fun k p S M1 ih F1 hC hp hk hb yes hT => by
    have hn := hC.1.1.2.2.1
    have hbt := fun j hj => (hC.1.1.2.2.2 j hj).2
    obtain ⟨eA, eB⟩ := isO_iff (p := p) hbt sA sB
    have hpt : p < n ∧ te n tp p = p + 1 := by
      rcases yes with y | y
      · exact sg_te sA y
      · exact sg_te sB y
    have hT' : (if isO n tp 43 45 p = true then (if (f (nx n tp p)).1 = 0 then joinL n tp (isO n tp 43 45) (fun p => stF (sg n tp p)) f k (f (nx n tp p)).2.1 (S ++ (f (nx n tp p)).2.2 ++ [stF (sg n tp p)]) else ((f (nx n tp p)).1, (f (nx n tp p)).2.1, [])) else (0, p, S)) = T := hT
    rw [if_pos (show isO n tp 43 45 p = true from decide_eq_true yes)] at hT'
    obtain ⟨F2, hC2⟩ := hC.z4 (p + 1) hpt.1
    have enx : rn n tp isb (p + 1) = nx n tp p := by unfold nx; rw [hpt.2]
    refine bRe_sum_28 _ _ _ ⟨hC.1.1.1.c, CallVC.cps0 (by omega) ?_⟩
    rw [hC.1.2.1, nI_1]
    generalize m_si M1 206 4 (nI (p + 1)) = M2 at F2 hC2 ⊢
    refine hf _ _ _ _ _ _ M2 (p + 1) r _ (by omega) hC2 (by omega) ?_
    rw [enx]
    refine ⟨fun e M3 q3 F3 hC3 hq3 hb3 => ?_, fun e M3 q3 k3 F3 hF3 hb3 hq3 => ?_⟩
    · rw [if_pos e] at hT'
      have hq3n := hC3.1.2.2.1
      have hla : (L0 ++ eL S ++ eL (f (nx n tp p)).2.2).length = (L0 ++ eL S).length + (eL (f (nx n tp p)).2.2).length := List.length_append
      have cont : ∀ c, c = encS (stF (sg n tp p)) → stF (sg n tp p) < 0 → Ct l G (d - 1) mRe_tells 0 0 [.ref 206, .int c] M3 (contΦ l G d mRe_sum 59 [.ref 206, .int (bt n tp p)] [] bc bs Φ) := fun c hc hs => by
        refine ct_tells M3 hC3.1.1.1 r _ c hC3.2.2.1 hC3.2.2.2.1 hC3.2.2.2.2.1 (by omega) ?_
        obtain ⟨F4, hC4⟩ := hC3.tell c
        generalize m_si (m_si M3 (233 + r) (L0 ++ eL S ++ eL (f (nx n tp p)).2.2).length c) 206 16 (nI ((L0 ++ eL S ++ eL (f (nx n tp p)).2.2).length + 1)) = M4 at F4 hC4 ⊢
        rw [hc, app_as L0 _ S _ _ rfl hs] at hC4
        have el : (L0 ++ eL (S ++ (f (nx n tp p)).2.2 ++ [stF (sg n tp p)])).length = (L0 ++ eL S ++ eL (f (nx n tp p)).2.2).length + 1 := by rw [← app_as L0 _ S _ _ rfl hs, List.length_append (bs := [encS (stF (sg n tp p))])]; rfl
        generalize S ++ (f (nx n tp p)).2.2 ++ [stF (sg n tp p)] = S' at hC4 hT' el
        refine bRe_sum_59 _ _ _ ⟨hC4.1.1.1.c, CallVC.cps0 (by omega) (ct_signHR M4 hC4.1 (by omega) (fun M5 F5 hA5 => bRe_sum_63 _ _ _ _ ?_))⟩
        have hge := rn_ge (n := n) (tp := tp) (q := isb) q3
        have hC5 := hC4.x4 F5 hA5
        rw [hq3] at hA5 hC5 hge ⊢
        exact ih _ _ M5 ((((F1.tr F2).tr F3).tr F4).tr (F5.mono X4_Rs)) hC5 (by rw [← hq3]; exact rn_idem _) (by omega) (by omega) hT'
      refine bRe_sum_42 _ _ _ ⟨fun z => ⟨hC3.1.1.1.c, CallVC.cps0 (by omega) (cont _ ?_ ?_)⟩, fun z => ⟨hC3.1.1.1.c, CallVC.cps0 (by omega) (cont _ ?_ ?_)⟩⟩
      · rw [show sg n tp p = 45 from yes.resolve_left (fun y => z (eA.mpr y))]; decide
      · rw [show sg n tp p = 45 from yes.resolve_left (fun y => z (eA.mpr y))]; decide
      · rw [eA.mp z]; decide
      · rw [eA.mp z]; decide
    · rw [if_neg e] at hT'
      subst hT'
      have cont : ∀ c, Ct l G (d - 1) mRe_tells 0 0 [.ref 206, .int c] M3 (contΦ l G d mRe_sum 59 [.ref 206, .int (bt n tp p)] [] bc bs Φ) := fun c => by
        refine ct_tells M3 hF3.1.1.1 r _ c hF3.2.1 hF3.2.2.1 hF3.2.2.2 (by omega) ?_
        obtain ⟨F4, hF4⟩ := hF3.tell c
        generalize m_si (m_si M3 (233 + r) k3 c) 206 16 (nI (k3 + 1)) = M4 at F4 hF4 ⊢
        refine bRe_sum_59 _ _ _ ⟨hF4.1.1.1.c, CallVC.cps0 (by omega) (ct_signHF M4 hF4.1 (bRe_sum_63 _ _ _ _ (bRe_sum_9 _ _ _ ⟨hF4.1.1.1.c, fun _ => ?_, fun z => absurd z hF4.1.ne⟩)))⟩
        exact h.2 e M4 q3 (k3 + 1) ((((F1.tr F2).mono XRs_f).tr F3).tr F4) hF4 (by omega) hq3
      exact bRe_sum_42 _ _ _ ⟨fun z => ⟨hF3.1.1.1.c, CallVC.cps0 (by omega) (cont _)⟩, fun z => ⟨hF3.1.1.1.c, CallVC.cps0 (by omega) (cont _)⟩⟩
  have both : ∀ k p S M1, (∀ k', k = k' + 1 → ∀ p S M1, FrS (XRs r) M M1 → RCs M1 n tp p o r (L0 ++ eL S) → rn n tp isb p = p → 500 ≤ p + k' → 2 * (L0 ++ eL S).length + 3 * q0 ≤ 3 * p + 2 * L0.length + 1 → joinL n tp (isO n tp 43 45) (fun p => stF (sg n tp p)) f k' p S = T → Ev l G d mRe_sum 9 [.ref 206, .int (bt n tp p)] [] M1 bc bs Φ) → FrS (XRs r) M M1 → RCs M1 n tp p o r (L0 ++ eL S) → rn n tp isb p = p → 500 ≤ p + k → 2 * (L0 ++ eL S).length + 3 * q0 ≤ 3 * p + 2 * L0.length + 1 → joinL n tp (isO n tp 43 45) (fun p => stF (sg n tp p)) f k p S = T → Ev l G d mRe_sum 9 [.ref 206, .int (bt n tp p)] [] M1 bc bs Φ := fun k p S M1 ih F1 hC hp hk hb hT => by
    have hn := hC.1.1.2.2.1
    have hbt := fun j hj => (hC.1.1.2.2.2 j hj).2
    obtain ⟨eA, eB⟩ := isO_iff (p := p) hbt sA sB
    have yes : (sg n tp p = 43 ∨ sg n tp p = 45) → Ev l G d mRe_sum 28 [.ref 206, .int (bt n tp p)] [] M1 bc bs Φ := fun y => by
      have hpt : p < n := by
        rcases y with y | y
        · exact (sg_te sA y).1
        · exact (sg_te sB y).1
      cases k with
      | zero => omega
      | succ k => exact go k p S M1 (ih k rfl) F1 hC hp hk hb y hT
    exact bRe_sum_9 _ _ _ ⟨hC.1.1.1.c, fun z => absurd hC.1.2.2.2 z, fun _ => ⟨fun z => yes (Or.inl (eA.mp z)), fun z => ⟨fun y => stop k p S M1 F1 hC hp hb (fun t => t.elim (fun t => z (eA.mpr t)) (fun t => y (eB.mpr t))) hT, fun y => yes (Or.inr (eB.mp y))⟩⟩⟩
  induction k with
  | zero => exact fun p S M1 => both 0 p S M1 (fun k' e => absurd e (by omega))
  | succ k ih => exact fun p S M1 => both (k + 1) p S M1 (fun k' e => by cases e; exact ih)
theorem re_sum {n : Nat} {tp : Nat → Nat} {f : Nat → Pr} {o dd : Nat} (h3 : 3 ≤ dd) (hf : RRD n tp mRe_product f 0 o dd) : RRD n tp mRe_sum (joinF n tp (isO n tp 43 45) (fun p => stF (sg n tp p)) f) 0 o (dd + 1) := by
  intro l G d bc bs Φ M q r L hd hC h0 h
  refine Ct.of rfl (Nat.le_of_ble_eq_true rfl) (bRe_sum_0 _ _ ⟨hC.1.1.1.c, CallVC.cps0 (by omega) (hf _ _ _ _ _ _ M q r L (by omega) hC h0 ⟨fun e M1 q1 F1 hC1 hq1 hb1 => ?_, fun e M1 q1 k1 F1 hF1 hb1 hq1 => ?_⟩)⟩)
  · refine bRe_sum_4 _ _ _ ⟨hC1.1.1.1.c, CallVC.cps0 (by omega) (ct_signHR M1 hC1.1 (by omega) (fun M2 F2 hA2 => bRe_sum_8 _ _ _ _ ?_))⟩
    have hge := rn_ge (n := n) (tp := tp) (q := isb) q1
    have hC2 := hC1.x4 F2 hA2
    rw [hq1] at hA2 hC2 hge ⊢
    refine re_sum_loop hf M _ (by omega) (by omega) h0 h 500 _ _ M2 (F1.tr (F2.mono X4_Rs)) hC2 (by rw [← hq1]; exact rn_idem _) (by omega) (by omega) ?_
    unfold joinF
    rw [if_pos e]
  · refine bRe_sum_4 _ _ _ ⟨hF1.1.1.1.c, CallVC.cps0 (by omega) (ct_signHF M1 hF1.1 (bRe_sum_8 _ _ _ _ (bRe_sum_9 _ _ _ ⟨hF1.1.1.1.c, fun _ => ?_, fun z => absurd z hF1.1.ne⟩)))⟩
    unfold joinF at h
    rw [if_neg e] at h
    exact h.2 e M1 q1 k1 F1 hF1 hb1 hq1
