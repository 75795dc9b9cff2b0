/-! ===== the reference: the best plan, what is owed ===== -/
def EOb (s : Sg) : Prop := ∀ p, g_eo s p = -1 ∨ ∃ v, v < 2000 ∧ g_eo s p = nI v
theorem EOb.fin {c : Cf} (hc : cfOK c) {s : Sg} (h : EOb s) {mm : Nat} {L : List Nat} {un : Bool} {off g u : Nat} (hS : SOK c (endS c s mm L un off g u)) : EOb (endS c s mm L un off g u) := by
  intro q
  have hfr := hS.2.2.2.2.2.2.2.1
  show (if q = L.getD g 0 then nI mm + c_nu c 6 * nI off + c_f c (L.getD g 0) 3 else g_eo s q) = -1 ∨ ∃ v, v < 2000 ∧ (if q = L.getD g 0 then nI mm + c_nu c 6 * nI off + c_f c (L.getD g 0) 3 else g_eo s q) = nI v
  by_cases z : q = L.getD g 0
  · rw [if_pos z]
    exact Or.inr ⟨_, hfr, bow_eq hc _ _ _⟩
  · rw [if_neg z]; exact h q
theorem EOb.day {c : Cf} (hc : cfOK c) : ∀ j s, SOK c s → EOb s → EOb (dayS c j s)
  | 0, s, _, h2 => h2
  | j + 1, s, h, h2 => by
    cases hel : g_el s with
    | true => rw [dayS_el c j hel]; exact h2
    | false =>
      cases hm : minS c s with
      | none => rw [dayS_none c j hel hm]; exact h2
      | some mm =>
        rw [dayS_some c j hel hm]
        have hcal := h.cal hc hel hm
        refine EOb.day hc j _ hcal ?_
        cases hdo : dueO c s mm (thN c mm (g_sv s) (c_n c)) with
        | some g => rw [calS_due hdo] at hcal ⊢; exact h2.fin hc hcal
        | none =>
          cases hho : handO c s mm (thN c mm (g_sv s) (c_n c)) with
          | mk o u =>
          cases o with
          | none => rw [calS_el hdo hho]; exact h2
          | some t => rw [calS_go hdo hho] at hcal ⊢; exact h2.fin hc hcal
theorem dyW_eo {w : Wd} (hw : WOK w) {out : Nat} {pl : Option Nat} {pb : Int32} {tu : Option Nat} {tc : Int32} {tw : Nat} {wy : Nat → Nat} (h1 : ∀ p, pl = some p → p < w_n w) (h2 : ∀ p, tu = some p → p < w_n w ∧ ¬ tc < 0 ∧ tw ≤ 4) (h3 : ∀ p, p < w_n w → wy p ≤ 4) : EOb (dyW w out pl pb tu tc tw wy) :=
  EOb.day (cW_ok hw h1 h2 h3).1 8 g0 (SOK.zero _) (fun p => Or.inl rfl)
def lateN (e : Int32) : Nat := (lateV e).toNatClampNeg
theorem late_sp {e : Int32} (h : e = -1 ∨ ∃ v, v < 2000 ∧ e = nI v) : lateV e = nI (lateN e) ∧ lateN e ≤ 9999 ∧ (lateN e = 9999 ↔ e = -1) := by
  rcases h with h | ⟨v, hv, h⟩
  · subst h; exact ⟨by decide, by decide, by decide⟩
  · subst h
    have hne := nI_neg (k := v) (by omega)
    have e1 : lateV (nI v) = nI v := if_neg hne
    have e2 : lateN (nI v) = v := by unfold lateN; rw [e1, nI_clamp (by omega)]
    rw [e1, e2]
    exact ⟨rfl, by omega, fun z => by omega, fun z => absurd z hne⟩
def rvN (w : Wd) (p b : Nat) : Nat := lateN (planV w p (nI b))
def bestT (w : Wd) (p : Nat) : Nat := bstN (fun t => rvN w p (2 ^ t - 1)) 10
def aBest (w : Wd) (x y : Int32) : An := okP w x (okV 2 w 1 y (0, if tN y = 0 then nI (2 ^ bestT w (tN x) - 1) else planV w (tN x) (nI (2 ^ bestT w (tN x) - 1)), w))
def aOwed (w : Wd) (x y : Int32) : An := okP w x (okP w y (0, givL (g_ps (day0W w)) (tN x) (tN y), w))
theorem rv_sp {w : Wd} (hw : WOK w) {p : Nat} (hp : p < w_n w) (b : Nat) : lateV (planV w p (nI b)) = nI (rvN w p b) ∧ rvN w p b ≤ 9999 ∧ (rvN w p b = 9999 ↔ planV w p (nI b) = -1) :=
  late_sp (dyW_eo hw (fun q e => by cases e; exact hp) (fun p q => by cases q) (fun q hq => (hw.2.1 q hq).2.2.2.2.2.1) p)
theorem best_eq {w : Wd} (hw : WOK w) {p : Nat} (hp : p < w_n w) : bstN (rvN w p) 1023 = 2 ^ bestT w p - 1 := bstN_t1 (rvN w p) (fun b hb => by unfold rvN; rw [planV_t1 hw hp hb])
section SRW
variable {l : Launch} {G : Gx} {d : Nat} {bc bs : Nat} {Φ : OutV → Mm → Prop}
theorem ct_r_best (M : Mm) (w : Wd) (hw : WOK w) (hI : RINV M w) (x y : Int32) (hd : 8 < d) (h : RPost M (aBest w x y) Φ) : Ct l G d mRe_best bc bs [.ref 206, .int x, .int y] M Φ := by
  refine Ct.of rfl (Nat.le_of_ble_eq_true rfl) ?_
  have n8 := hw.1
  obtain ⟨hF0, hI0, t0⟩ := hI.t0 hw
  have hS0 := hI0.1
  refine bRe_best_0 _ _ _ _ ⟨hI.1.c, CallVC.cps0 (by omega) ?_⟩
  generalize m_si M 206 0 0 = M0 at *
  refine ct_isPerson M0 w hw hI0 x (by omega) (fun q1 => ?_) (fun q1 => ?_)
  rotate_left
  · refine bRe_best_11 _ _ _ _ _ _ _ _ _ _ ?_
    refine ⟨fun z => ?_, fun z => ?_⟩ <;> first | exact absurd rfl z | exact absurd z (by decide) | skip
    refine ⟨hS0.c, CallVC.cps0 (by omega) (ct_bad1 M0 _ hS0 t0 (by decide) ?_)⟩
    refine bRe_best_23 _ _ _ _ _ _ _ _ _ ?_
    refine ⟨fun z => ?_, fun z => ?_⟩ <;> first | exact absurd rfl z | exact absurd z (by decide) | skip
    exact h.fail hw hF0 hI0 (code := 1) rfl (okP_n q1)
  refine bRe_best_11 _ _ _ _ _ _ _ _ _ _ ?_
  refine ⟨fun z => ?_, fun z => ?_⟩ <;> first | exact absurd rfl z | exact absurd z (by decide) | skip
  refine ⟨hS0.c, CallVC.cps0 (by omega) (ct_bad0 M0 _ hS0 t0 ?_)⟩
  refine bRe_best_23 _ _ _ _ _ _ _ _ _ ?_
  refine ⟨fun z => ?_, fun z => ?_⟩ <;> first | exact absurd rfl z | exact absurd z (by decide) | skip
  refine CallVC.cps0 (by omega) ?_
  refine ct_inV M0 1 y (fun q2 => ?_) (fun q2 => ?_)
  rotate_left
  · refine bRe_best_33 _ _ _ _ _ _ _ _ _ _ ?_
    refine ⟨fun z => ?_, fun z => ?_⟩ <;> first | exact absurd rfl z | exact absurd z (by decide) | skip
    refine ⟨hS0.c, CallVC.cps0 (by omega) (ct_bad1 M0 _ hS0 t0 (by decide) ?_)⟩
    refine bRe_best_45 _ _ _ _ _ _ _ _ _ ?_
    refine ⟨fun z => ?_, fun z => ?_⟩ <;> first | exact absurd rfl z | exact absurd z (by decide) | skip
    exact h.fail hw hF0 hI0 (code := 2) rfl ((okP_y q1).trans (okV_n q2))
  refine bRe_best_33 _ _ _ _ _ _ _ _ _ _ ?_
  refine ⟨fun z => ?_, fun z => ?_⟩ <;> first | exact absurd rfl z | exact absurd z (by decide) | skip
  refine ⟨hS0.c, CallVC.cps0 (by omega) (ct_bad0 M0 _ hS0 t0 ?_)⟩
  refine bRe_best_45 _ _ _ _ _ _ _ _ _ ?_
  refine ⟨fun z => ?_, fun z => ?_⟩ <;> first | exact absurd rfl z | exact absurd z (by decide) | skip
  obtain ⟨p, hp, rfl⟩ := (pIn_nI n8).mp q1
  obtain ⟨v, hv, rfl⟩ := (vIn_nI (by omega)).mp q2
  have ha : aBest w (nI p) (nI v) = (0, if v = 0 then nI (bstN (rvN w p) 1023) else planV w p (nI (bstN (rvN w p) 1023)), w) := by
    refine ((okP_y q1).trans (okV_y q2)).trans ?_
    rw [tN_nI (by omega), tN_nI (by omega), best_eq hw hp]
  have loop : ∀ e b (x3 x4 : Int32) (u6 : Value) M', b + e = 1024 → FrS QR2 M0 M' → RINV M' w → m_i M' 206 0 = 0 → (b = 0 → x3 = 0 ∧ x4 = -2) → (∀ k, b = k + 1 → x3 = nI (bstN (rvN w p) k) ∧ x4 = nI (rvN w p (bstN (rvN w p) k))) → Ev l G d mRe_best 59 [.ref 206, .int (nI p), .int (nI v), .int x3, .int x4, .int (nI b), u6] [] M' bc bs Φ := by
    intro e
    induction e with
    | zero =>
      intro b x3 x4 u6 M' hb hF hI' t' h0 h1
      obtain ⟨e3, e4⟩ := h1 1023 (by omega)
      obtain ⟨r1, r2, r3⟩ := rv_sp hw hp (bstN (rvN w p) 1023)
      subst e3 e4
      have hfin : ∀ r, r = (if v = 0 then nI (bstN (rvN w p) 1023) else planV w p (nI (bstN (rvN w p) 1023))) → Φ (.inl (some (.int r))) M' := fun r er => h.done2 ((hF0.mono QR.two).tr hF) hI' t' (by rw [ha, er])
      refine bRe_best_59 _ _ _ _ _ _ _ _ ⟨fun _ => ⟨fun z => ⟨fun z2 => hfin _ ?_, fun z2 => hfin _ ?_⟩, fun z => hfin _ ?_⟩, fun z => absurd (nI_le (a := 1024) (by omega) (by omega)) z⟩
      · rw [if_neg (fun q => z (by rw [q]; rfl)), ← r1]
        unfold lateV
        rw [if_neg (fun q => ?_)]
        rw [r3.mpr q] at z2
        exact z2 rfl
      · rw [if_neg (fun q => z (by rw [q]; rfl))]
        have := (nI_eq (b := 9999) (by omega) (by omega)).mp z2
        exact (r3.mp this).symm
      · rw [if_pos ((nI_eq (b := 0) (by omega) (by omega)).mp z)]
    | succ e ih =>
      intro b x3 x4 u6 M' hb hF hI' t' h0 h1
      obtain ⟨r1, r2, r3⟩ := rv_sp hw hp b
      refine bRe_best_59 _ _ _ _ _ _ _ _ ⟨fun z => absurd z (nI_not_le (b := 1024) (by omega) (by omega)), fun _ => ⟨hI'.1.c, CallVC.cps0 (by omega) ?_⟩⟩
      refine ct_planEnds M' w hw hI' p hp (nI b) (by omega) (fun M2 hF2 hI2 t2 => ?_)
      have keep : ∀ (x6 : Int32), (0 < b) → (∀ k, b = k + 1 → bstN (rvN w p) b = bstN (rvN w p) k) → Ev l G d mRe_best 116 [.ref 206, .int (nI p), .int (nI v), .int x3, .int x4, .int (nI b), .int x6] [] M2 bc bs Φ := fun x6 hb0 hk => by
        refine bRe_best_116 _ _ _ _ _ _ _ _ ?_
        rw [nI_1]
        refine ih (b + 1) x3 x4 _ M2 (by omega) (hF.tr hF2) hI2 (t2.trans t') (fun z => by omega) (fun k ek => ?_)
        obtain ⟨j, rfl⟩ : ∃ j, b = j + 1 := ⟨b - 1, by omega⟩
        obtain rfl : k = j + 1 := by omega
        rw [hk j rfl]
        exact h1 j rfl
      have take : ∀ (x6 : Int32), x6 = nI (rvN w p b) → bstN (rvN w p) b = b → Ev l G d mRe_best 109 [.ref 206, .int (nI p), .int (nI v), .int x3, .int x4, .int (nI b), .int x6] [] M2 bc bs Φ := fun x6 e6 hk => by
        refine bRe_best_109 _ _ _ _ _ _ _ _ ?_
        refine bRe_best_116 _ _ _ _ _ _ _ _ ?_
        rw [nI_1]
        refine ih (b + 1) _ _ _ M2 (by omega) (hF.tr hF2) hI2 (t2.trans t') (fun z => by omega) (fun k ek => ?_)
        obtain rfl : k = b := by omega
        rw [hk]
        exact ⟨rfl, e6⟩
      -- what is to be done, by the number that it comes to
      have main : ∀ x6 : Int32, x6 = nI (rvN w p b) → (x4 = -2 → Ev l G d mRe_best 109 [.ref 206, .int (nI p), .int (nI v), .int x3, .int x4, .int (nI b), .int x6] [] M2 bc bs Φ) ∧ (¬ x4 = -2 → (x6 < x4 → Ev l G d mRe_best 109 [.ref 206, .int (nI p), .int (nI v), .int x3, .int x4, .int (nI b), .int x6] [] M2 bc bs Φ) ∧ (¬ x6 < x4 → Ev l G d mRe_best 116 [.ref 206, .int (nI p), .int (nI v), .int x3, .int x4, .int (nI b), .int x6] [] M2 bc bs Φ)) := fun x6 e6 => by
        cases b with
        | zero =>
          obtain ⟨-, e4⟩ := h0 rfl
          exact ⟨fun _ => take x6 e6 rfl, fun z => absurd e4 z⟩
        | succ j =>
          obtain ⟨-, e4⟩ := h1 j rfl
          obtain ⟨-, s2, -⟩ := rv_sp hw hp (bstN (rvN w p) j)
          have hs : bstN (rvN w p) (j + 1) = if rvN w p (j + 1) < rvN w p (bstN (rvN w p) j) then j + 1 else bstN (rvN w p) j := rfl
          refine ⟨fun z => ?_, fun _ => ⟨fun z => take x6 e6 ?_, fun z => keep x6 (by omega) (fun k ek => ?_)⟩⟩
          · rw [e4] at z
            have := congrArg Int32.toInt z
            rw [nI_toInt (by omega)] at this
            have e2 : ((-2 : Int32)).toInt = -2 := rfl
            omega
          · rw [e6, e4] at z
            rw [hs, if_pos ((nI_ltI (by omega) (by omega)).mp z)]
          · rw [e6, e4] at z
            obtain rfl : k = j := by omega
            rw [hs, if_neg (fun y => z ((nI_ltI (by omega) (by omega)).mpr y))]
      refine bRe_best_74 _ _ _ _ _ _ _ _ _ ⟨fun z => main _ ?_, fun z => main _ ?_⟩
      · rw [← r1]; unfold lateV; rw [if_neg z]
      · rw [← r1]; unfold lateV; rw [if_pos z]
  exact loop 1024 0 0 (-2) _ M0 (by omega) (FrS.rf _ _) hI0 t0 (fun _ => ⟨rfl, rfl⟩) (fun k hk => by omega)
def DBR (M : Mm) (n : Nat) (v : Nat → Nat → Nat) : Prop := ∀ a b, a < n → b < n → m_i M (349 + a) b = nI (v a b)
theorem ct_setsOff (M : Mm) (hS : RS M) (n : Nat) (hn : n ≤ 8) (h11 : m_i M 206 11 = nI n) (v : Nat → Nat → Nat) (rk : Nat → Nat) (hD : DBR M n v) (hv : ∀ a b, v a b < 2 ^ 31 ∧ (v a b ≠ 0 → rk b < rk a)) (h : Φ (.inl (some (.int 0))) M) : Ct l G d mRe_setsOff bc bs [.ref 206] M Φ := by
  refine Ct.of rfl (Nat.le_of_ble_eq_true rfl) ?_
  refine bRe_setsOff_0 _ _ ?_
  have la : ∀ e a (u2 u3 u4 u5 u6 u7 : Value), a + e = n → Ev l G d mRe_setsOff 2 [.ref 206, .int (nI a), u2, u3, u4, u5, u6, u7] [] M bc bs Φ := by
    intro e
    induction e with
    | zero =>
      intro a u2 u3 u4 u5 u6 u7 ha
      refine bRe_setsOff_2 _ _ _ _ _ _ _ _ _ ⟨hS.c, fun _ => h, fun z => absurd ?_ z⟩
      rw [h11]; exact nI_le (by omega) (by omega)
    | succ e iha =>
      intro a u2 u3 u4 u5 u6 u7 ha
      refine bRe_setsOff_2 _ _ _ _ _ _ _ _ _ ⟨hS.c, fun z => absurd z (by rw [h11]; exact nI_not_le (by omega) (by omega)), fun _ => ?_⟩
      rw [nI_1]
      have lb : ∀ e2 b (u3 u4 u5 u6 u7 : Value), b + e2 = n → Ev l G d mRe_setsOff 14 [.ref 206, .int (nI a), .int (nI b), u3, u4, u5, u6, u7] [] M bc bs Φ := by
        intro e2
        induction e2 with
        | zero =>
          intro b u3 u4 u5 u6 u7 hb
          refine bRe_setsOff_14 _ _ _ _ _ _ _ _ _ ⟨hS.c, fun _ => ?_, fun z => absurd ?_ z⟩
          · rw [nI_1]; exact iha (a + 1) _ _ _ _ _ _ (by omega)
          · rw [h11]; exact nI_le (by omega) (by omega)
        | succ e2 ihb =>
          intro b u3 u4 u5 u6 u7 hb
          refine bRe_setsOff_14 _ _ _ _ _ _ _ _ _ ⟨hS.c, fun z => absurd z (by rw [h11]; exact nI_not_le (by omega) (by omega)), fun _ => ?_⟩
          rw [nI_1]
          have lc : ∀ e3 c (u4 u5 u6 u7 : Value), c + e3 = n → Ev l G d mRe_setsOff 26 [.ref 206, .int (nI a), .int (nI b), .int (nI c), u4, u5, u6, u7] [] M bc bs Φ := by
            intro e3
            induction e3 with
            | zero =>
              intro c u4 u5 u6 u7 hc
              refine bRe_setsOff_26 _ _ _ _ _ _ _ _ _ ⟨hS.c, fun _ => ?_, fun z => absurd ?_ z⟩
              · rw [nI_1]; exact ihb (b + 1) _ _ _ _ _ (by omega)
              · rw [h11]; exact nI_le (by omega) (by omega)
            | succ e3 ihc =>
              intro c u4 u5 u6 u7 hc
              have x := hD b a (by omega) (by omega)
              have y := hD c b (by omega) (by omega)
              have z := hD a c (by omega) (by omega)
              have vx := hv b a
              have vy := hv c b
              have vz := hv a c
              have n150 : ∀ x4 x5 x6 x7 : Int32, Ev l G d mRe_setsOff 150 [.ref 206, .int (nI a), .int (nI b), .int (nI c), .int x4, .int x5, .int x6, .int x7] [] M bc bs Φ := fun _ _ _ _ => by
                refine bRe_setsOff_150 _ _ _ _ _ _ _ _ _ ?_
                rw [nI_1]; exact ihc (c + 1) _ _ _ _ (by omega)
              have k0 : ∀ m, m < 2 ^ 31 → nI m = 0 → m = 0 := fun m hm q => (nI_eq (b := 0) hm (by omega)).mp q
              have hz : v b a = 0 ∨ v c b = 0 ∨ v a c = 0 := by
                by_cases q1 : v b a = 0
                · exact Or.inl q1
                · by_cases q2 : v c b = 0
                  · exact Or.inr (Or.inl q2)
                  · by_cases q3 : v a c = 0
                    · exact Or.inr (Or.inr q3)
                    · have := vx.2 q1
                      have := vy.2 q2
                      have := vz.2 q3
                      omega
              refine bRe_setsOff_26 _ _ _ _ _ _ _ _ _ ⟨hS.c, fun q => absurd q (by rw [h11]; exact nI_not_le (by omega) (by omega)), fun _ => ?_⟩
              simp (disch := omega) only [hS.c, hS.r_fed, hS.s_fed, hS.r_rKind, hS.s_rKind, hS.r_kind, hS.s_kind, hS.r_rNum, hS.s_rNum, hS.r_num, hS.s_num, hS.r_rLong, hS.s_rLong, hS.r_cLong, hS.s_cLong, hS.r_stack, hS.s_stack, hS.r_names, hS.s_names, hS.r_row, hS.s_row, hS.r_ruleOf, hS.s_ruleOf, hS.r_ways, hS.s_ways, hS.r_cWho, hS.s_cWho, hS.r_cMin, hS.s_cMin, hS.r_cOff, hS.s_cOff, hS.r_cTh, hS.s_cTh, hS.r_cEnd, hS.s_cEnd, hS.r_hds, hS.s_hds, hS.r_ends, hS.s_ends, hS.r_there, hS.s_there, hS.r_offd, hS.s_offd, hS.r_had, hS.s_had, hS.r_rPer, hS.s_rPer, hS.r_rP, hS.s_rP, hS.r_per, hS.s_per, hS.r_pr, hS.s_pr, hS.r_rCode, hS.s_rCode, hS.r_rC, hS.s_rC, hS.r_code, hS.s_code, hS.r_cd, hS.s_cd, hS.r_kept, hS.s_kept, hS.r_kp, hS.s_kp, hS.r_holder, hS.s_holder, hS.r_hd, hS.s_hd, hS.r_pass, hS.s_pass, hS.r_ps, hS.s_ps, hS.r_debt, hS.s_debt, hS.r_db, hS.s_db, hS.r_endBy, hS.s_endBy, hS.r_eb, hS.s_eb, vpT, vpk0, clk0, vpk1, clk1, vpk2, clk2, vpk3, clk3, vpk4, clk4, vpk5, clk5, vpk6, clk6, vpk7, clk7, vpk8, clk8, vpk9, clk9, nI_clamp, nI_1, true_and, x, y, z]
              refine ⟨fun q1 => ⟨fun q2 => ⟨fun _ => n150 _ _ _ _, fun _ => ⟨fun q3 => absurd ?_ q3, fun _ => n150 _ _ _ _⟩⟩, fun q2 => ⟨fun _ => n150 _ _ _ _, fun _ => ⟨fun q3 => absurd ?_ q3, fun _ => n150 _ _ _ _⟩⟩⟩, fun q1 => ⟨fun q2 => ⟨fun _ => n150 _ _ _ _, fun _ => ⟨fun q3 => absurd ?_ q3, fun _ => n150 _ _ _ _⟩⟩, fun q2 => ⟨fun _ => n150 _ _ _ _, fun _ => ⟨fun q3 => absurd ?_ q3, fun _ => n150 _ _ _ _⟩⟩⟩⟩
              · have p1 := (nI_leI vy.1 vx.1).mp q1
                have p2 := (nI_leI vy.1 vz.1).mp q2
                rw [show v c b = 0 by omega]; rfl
              · have p1 := (nI_leI vy.1 vx.1).mp q1
                have p2 : v a c < v c b := Nat.lt_of_not_le (fun q => q2 ((nI_leI vy.1 vz.1).mpr q))
                rw [show v a c = 0 by omega]; rfl
              · have p1 : v b a < v c b := Nat.lt_of_not_le (fun q => q1 ((nI_leI vy.1 vx.1).mpr q))
                have p2 := (nI_leI vx.1 vz.1).mp q2
                rw [show v b a = 0 by omega]; rfl
              · have p1 : v b a < v c b := Nat.lt_of_not_le (fun q => q1 ((nI_leI vy.1 vx.1).mpr q))
                have p2 : v a c < v b a := Nat.lt_of_not_le (fun q => q2 ((nI_leI vx.1 vz.1).mpr q))
                rw [show v a c = 0 by omega]; rfl
          exact lc (n - (a + 1)) (a + 1) _ _ _ _ (by omega)
      exact lb (n - (a + 1)) (a + 1) _ _ _ _ _ (by omega)
  exact la n 0 _ _ _ _ _ _ (by omega)
end SRW
