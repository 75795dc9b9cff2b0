/-! ===== the reference: more questions ===== -/
theorem RIN.fr {M M' : Mm} {w : Wd} {out : Nat} {pl : Option Nat} {pb : Int32} {tu : Option Nat} {tc : Int32} {tw : Nat} (h : RIN M w out pl pb tu tc tw) (hF : FrS QY M M') : RIN M' w out pl pb tu tc tw := by
  obtain ⟨a1, a2, a3, a4, a5, a6, a7, a8⟩ := h
  exact ⟨a1.fr hF, a2.fr hF (by unfold QY QD; omega) (fun p j hp => by unfold QY QD; omega), a3.fr hF (by unfold QY QD; omega) (fun j => by unfold QY QD; omega) (fun j => by unfold QY QD; omega) (fun j => by unfold QY QD; omega) (fun i j hi => by unfold QY QD; omega), by rw [hF.1 _ _ (by unfold QY QD; omega)]; exact a4, by rw [hF.1 _ _ (by unfold QY QD; omega)]; exact a5, fun p hp => by rw [hF.1 _ _ (by unfold QY QD; omega)]; exact a6 p hp, by rw [hF.1 _ _ (by unfold QY QD; omega)]; exact a7, fun p hp => by rw [hF.1 _ _ (by unfold QY QD; omega), hF.1 _ _ (by unfold QY QD; omega)]; exact a8 p hp⟩
/-- the rules of a world laid out -/
theorem RINV.rdc {M M1 : Mm} {w : Wd} (hw : WOK w) (h : RINV M w) (hF : FrS (fun a _ => a = 261) M M1) (hL : LRd M1 (w_R w) 0) (wy : Nat → Nat) (hwy : ∀ p, p < w_n w → m_i M 262 p = nI (wy p)) : RDc M1 (cW w 0 none 0 none 0 0 wy) (w_R w) 0 := by
  obtain ⟨a1, a2, a3, a4, a5, a6, a7, a8⟩ := h.rin
  exact ⟨a1.fr hF, a2.fr hF (by omega) (fun p j hp => by omega), a3.fr hF (by omega) (fun j => by omega) (fun j => by omega) (fun j => by omega) (fun i j hi => by omega), hw.2.2.2.2.1, hL, fun _ => rfl, rfl, rfl, by rw [hF.1 _ _ (by omega)]; exact a5, (fun p q => by cases q), by rw [hF.1 _ _ (by omega)]; exact a7, (fun p q => by cases q), fun p hp => by rw [hF.1 _ _ (by omega)]; exact hwy p hp⟩
section SRT
variable {l : Launch} {G : Gx} {d : Nat} {bc bs : Nat} {Φ : OutV → Mm → Prop}
/-- must and worth look up no way -/
def RDm (M : Mm) (c : Cf) (R : List RU) (out : Nat) : Prop := RS M ∧ RPrep M (c_n c) (c_f c) ∧ RRrep M R ∧ (∀ r ∈ R, RUok r) ∧ LRd M R out
theorem ct_bookOf (M : Mm) (hS : RS M) (ps : List PR) (hp : RPs M ps) (hix : ∀ i, i < ps.length → p_g ps i < 8 ∧ p_t ps i < 8) (g t : Nat) (hg : g < 8) (ht : t < 8) (h : Φ (.inl (some (.int (givL ps g t)))) M) : Ct l G d mRe_bookOf bc bs [.ref 206, .int (nI g), .int (nI t)] M Φ := by
  obtain ⟨p1, p2, p3⟩ := hp
  refine Ct.of rfl (Nat.le_of_ble_eq_true rfl) ?_
  refine bRe_bookOf_0 _ _ _ _ ?_
  have loop : ∀ e i, i + e = ps.length → Ev l G d mRe_bookOf 5 [.ref 206, .int (nI g), .int (nI t), .int (givS (p_g ps) (p_t ps) (p_w ps) g t i), .int (nI i)] [] M bc bs Φ := by
    intro e
    induction e with
    | zero =>
      intro i hi
      obtain rfl : i = ps.length := by omega
      refine bRe_bookOf_5 _ _ _ _ _ _ ⟨hS.c, fun _ => h, fun q => absurd ?_ q⟩
      rw [p1]; exact nI_le (Nat.le_refl _) (by omega)
    | succ e ih =>
      intro i hi
      obtain ⟨e0, e1, e2, e3⟩ := p3 i (by omega)
      obtain ⟨x1, x2⟩ := hix i (by omega)
      have es : givS (p_g ps) (p_t ps) (p_w ps) g t (i + 1) = if p_g ps i = g ∧ p_t ps i = t then givS (p_g ps) (p_t ps) (p_w ps) g t i + p_w ps i else givS (p_g ps) (p_t ps) (p_w ps) g t i := rfl
      have hnext : ∀ v, v = givS (p_g ps) (p_t ps) (p_w ps) g t (i + 1) → Ev l G d mRe_bookOf 5 [.ref 206, .int (nI g), .int (nI t), .int v, .int (nI (i + 1))] [] M bc bs Φ := fun v ev => by
        rw [ev]; exact ih (i + 1) (by omega)
      refine bRe_bookOf_5 _ _ _ _ _ _ ?_
      simp (disch := omega) only [hS.c, hS.r_fed, hS.s_fed, hS.r_rKind, hS.s_rKind, hS.r_kind, hS.s_kind, hS.r_rNum, hS.s_rNum, hS.r_num, hS.s_num, hS.r_rLong, hS.s_rLong, hS.r_cLong, hS.s_cLong, hS.r_stack, hS.s_stack, hS.r_names, hS.s_names, hS.r_row, hS.s_row, hS.r_ruleOf, hS.s_ruleOf, hS.r_ways, hS.s_ways, hS.r_cWho, hS.s_cWho, hS.r_cMin, hS.s_cMin, hS.r_cOff, hS.s_cOff, hS.r_cTh, hS.s_cTh, hS.r_cEnd, hS.s_cEnd, hS.r_hds, hS.s_hds, hS.r_ends, hS.s_ends, hS.r_there, hS.s_there, hS.r_offd, hS.s_offd, hS.r_had, hS.s_had, hS.r_rPer, hS.s_rPer, hS.r_rP, hS.s_rP, hS.r_per, hS.s_per, hS.r_pr, hS.s_pr, hS.r_rCode, hS.s_rCode, hS.r_rC, hS.s_rC, hS.r_code, hS.s_code, hS.r_cd, hS.s_cd, hS.r_kept, hS.s_kept, hS.r_kp, hS.s_kp, hS.r_holder, hS.s_holder, hS.r_hd, hS.s_hd, hS.r_pass, hS.s_pass, hS.r_ps, hS.s_ps, hS.r_debt, hS.s_debt, hS.r_db, hS.s_db, hS.r_endBy, hS.s_endBy, hS.r_eb, hS.s_eb, vpT, vpk0, clk0, vpk1, clk1, vpk2, clk2, vpk3, clk3, vpk4, clk4, vpk5, clk5, vpk6, clk6, vpk7, clk7, vpk8, clk8, vpk9, clk9, nI_clamp, nI_1, true_and, p1, e0, e1, e2, nI_eq]
      refine ⟨fun q => absurd q (nI_not_le (by omega) (by omega)), fun _ => ⟨fun q => hnext _ ?_, fun q => ⟨fun q2 => hnext _ ?_, fun q2 => hnext _ ?_⟩⟩⟩
      · rw [es, if_neg (fun z => q z.1), Int32.add_zero]
      · rw [es, if_neg (fun z => q2 z.2), Int32.add_zero]
      · rw [es, if_pos ⟨q, q2⟩]
  exact loop ps.length 0 (by omega)
theorem ct_r_book (M : Mm) (w : Wd) (hw : WOK w) (hI : RINV M w) (x y : Int32) (hd : 7 < d) (h : RPost M (aBook w x y) Φ) : Ct l G d mRe_book bc bs [.ref 206, .int x, .int y] M Φ := by
  refine Ct.of rfl (Nat.le_of_ble_eq_true rfl) ?_
  have n8 := hw.1
  obtain ⟨hF0, hI0, t0⟩ := hI.t0 hw
  have hS0 := hI0.1
  refine bRe_book_0 _ _ _ _ ⟨hI.1.c, CallVC.cps0 (by omega) ?_⟩
  generalize m_si M 206 0 0 = M0 at *
  refine ct_isPerson M0 w hw hI0 x (by omega) (fun q1 => ?_) (fun q1 => ?_)
  rotate_left
  · refine bRe_book_11 _ _ _ _ _ _ ?_
    refine ⟨fun z => ?_, fun z => ?_⟩ <;> first | exact absurd rfl z | exact absurd z (by decide) | skip
    refine ⟨hS0.c, CallVC.cps0 (by omega) (ct_bad1 M0 _ hS0 t0 (by decide) ?_)⟩
    refine bRe_book_31 _ _ _ _ _ ?_
    refine ⟨fun z => ?_, fun z => ?_⟩ <;> first | exact absurd rfl z | exact absurd z (by decide) | skip
    exact h.fail hw hF0 hI0 (code := 1) rfl (okP_n q1)
  refine bRe_book_11 _ _ _ _ _ _ ?_
  refine ⟨fun z => ?_, fun z => ?_⟩ <;> first | exact absurd rfl z | exact absurd z (by decide) | skip
  refine ⟨hS0.c, CallVC.cps0 (by omega) ?_⟩
  refine ct_isPerson M0 w hw hI0 y (by omega) (fun q2 => ?_) (fun q2 => ?_)
  rotate_left
  · refine bRe_book_19 _ _ _ _ _ _ ?_
    refine ⟨fun z => ?_, fun z => ?_⟩ <;> first | exact absurd rfl z | exact absurd z (by decide) | skip
    refine ⟨hS0.c, CallVC.cps0 (by omega) (ct_bad1 M0 _ hS0 t0 (by decide) ?_)⟩
    refine bRe_book_31 _ _ _ _ _ ?_
    refine ⟨fun z => ?_, fun z => ?_⟩ <;> first | exact absurd rfl z | exact absurd z (by decide) | skip
    exact h.fail hw hF0 hI0 (code := 1) rfl ((okP_y q1).trans (okP_n q2))
  refine bRe_book_19 _ _ _ _ _ _ ?_
  refine ⟨fun z => ?_, fun z => ?_⟩ <;> first | exact absurd rfl z | exact absurd z (by decide) | skip
  refine ⟨hS0.c, CallVC.cps0 (by omega) (ct_bad0 M0 _ hS0 t0 ?_)⟩
  refine bRe_book_31 _ _ _ _ _ ?_
  refine ⟨fun z => ?_, fun z => ?_⟩ <;> first | exact absurd rfl z | exact absurd z (by decide) | skip
  refine ⟨hS0.c, CallVC.cps0 (by omega) ?_⟩
  refine ct_asItIsW M0 w hw 0 (by omega) none 0 none 0 0 hI0.rin (fun p q => by cases q) (fun p q => by cases q) (by omega) (fun M1 hF1 hD1 hC1 => ?_)
  obtain ⟨hok, hrk⟩ := day0W_ok hw
  have hF1' := hF0.tr (hF1.mono QY.r)
  have hI1 := hI0.fr hw (hF1.mono QY.r)
  have t1 : m_i M1 206 0 = 0 := by rw [hF1.1 _ _ (by unfold QY QD; omega)]; exact t0
  have hS1 := hI1.1
  replace hD1 : RDs M1 (day0W w) := hD1
  obtain ⟨p, hp, rfl⟩ := (pIn_nI n8).mp q1
  obtain ⟨o, ho, rfl⟩ := (pIn_nI n8).mp q2
  refine bRe_book_40 _ _ _ _ ⟨hS1.c, CallVC.cps0 (by omega) ?_⟩
  have hix := PBL.idx (cW_ok hw (fun p q => by cases q) (fun p q => by cases q) (fun p hp => (hw.2.1 p hp).2.2.2.2.2.1)).1 hok
  refine ct_bookOf M1 hS1 _ hD1.1.2.2.2.2.1 (fun i hi => ⟨(hix i hi).1, (hix i hi).2.1⟩) p o (by omega) (by omega) ?_
  refine bRe_book_46 _ _ _ _ _ (h.done hw hF1' hI1 t1 (((okP_y q1).trans (okP_y q2)).trans ?_))
  rw [tN_nI (by omega), tN_nI (by omega)]
theorem ct_r_day (M : Mm) (w : Wd) (hw : WOK w) (hI : RINV M w) (x : Int32) (hd : 7 < d) (h : RPost M (aDay w x) Φ) : Ct l G d mRe_day bc bs [.ref 206, .int x] M Φ := by
  refine Ct.of rfl (Nat.le_of_ble_eq_true rfl) ?_
  have n8 := hw.1
  obtain ⟨hF0, hI0, t0⟩ := hI.t0 hw
  have hS0 := hI0.1
  refine bRe_day_0 _ _ _ ⟨hI.1.c, CallVC.cps0 (by omega) ?_⟩
  generalize m_si M 206 0 0 = M0 at *
  refine ct_inV M0 6 x (fun q1 => ?_) (fun q1 => ?_)
  rotate_left
  · refine bRe_day_13 _ _ _ _ _ _ _ _ _ ?_
    refine ⟨fun z => ?_, fun z => ?_⟩ <;> first | exact absurd rfl z | exact absurd z (by decide) | skip
    refine ⟨hS0.c, CallVC.cps0 (by omega) (ct_bad1 M0 _ hS0 t0 (by decide) ?_)⟩
    refine bRe_day_25 _ _ _ _ _ _ _ _ ?_
    refine ⟨fun z => ?_, fun z => ?_⟩ <;> first | exact absurd rfl z | exact absurd z (by decide) | skip
    exact h.fail hw hF0 hI0 (code := 1) rfl (okV_n q1)
  refine bRe_day_13 _ _ _ _ _ _ _ _ _ ?_
  refine ⟨fun z => ?_, fun z => ?_⟩ <;> first | exact absurd rfl z | exact absurd z (by decide) | skip
  refine ⟨hS0.c, CallVC.cps0 (by omega) (ct_bad0 M0 _ hS0 t0 ?_)⟩
  refine bRe_day_25 _ _ _ _ _ _ _ _ ?_
  refine ⟨fun z => ?_, fun z => ?_⟩ <;> first | exact absurd rfl z | exact absurd z (by decide) | skip
  refine ⟨hS0.c, CallVC.cps0 (by omega) ?_⟩
  refine ct_asItIsW M0 w hw 0 (by omega) none 0 none 0 0 hI0.rin (fun p q => by cases q) (fun p q => by cases q) (by omega) (fun M1 hF1 hD1 hC1 => ?_)
  obtain ⟨hok, hrk⟩ := day0W_ok hw
  have hF1' := hF0.tr (hF1.mono QY.r)
  have hI1 := hI0.fr hw (hF1.mono QY.r)
  have t1 : m_i M1 206 0 = 0 := by rw [hF1.1 _ _ (by unfold QY QD; omega)]; exact t0
  have hS1 := hI1.1
  replace hD1 : RDs M1 (day0W w) := hD1
  obtain ⟨v, hv, rfl⟩ := (vIn_nI (by omega)).mp q1
  have hfin : ∀ r, r = dayV (day0W w) v → Φ (.inl (some (.int r))) M1 := fun r e => by
    refine h.done hw hF1' hI1 t1 ((okV_y q1).trans ?_)
    rw [tN_nI (by omega), e]
  generalize hs : day0W w = s at *
  obtain ⟨⟨d40, d42, d44, d36, ⟨d41, hps28, -⟩, -, hcr⟩, -⟩ := hD1
  have h8 : (g_cs s).length ≤ 8 := hok.2.2.2.2.2.2.2.2.2.2.1
  refine bRe_day_34 _ _ _ _ _ _ _ ?_
  have loop : ∀ e i, i + e = (g_cs s).length → Ev l G d mRe_day 44 [.ref 206, .int (nI v), .int (svN (g_cs s) i), .int (offN (g_cs s) i), .int (lastN (g_cs s) i), .int (nI i)] [] M1 bc bs Φ := by
    intro e
    induction e with
    | zero =>
      intro i hi
      obtain rfl : i = (g_cs s).length := by omega
      have nv : ∀ k, nI v = nI k → k < 8 → v = k := fun k e hk => (nI_eq (by omega) (by omega)).mp e
      refine bRe_day_44 _ _ _ _ _ _ _ ⟨hS1.c, fun _ => ?_, fun q => absurd ?_ q⟩
      · rw [d40, d41, d42, d44]
        refine ⟨fun z => hfin _ ?_, fun z => hfin _ ?_, fun z => hfin _ ?_, fun z => hfin _ ?_, fun z => ⟨fun y => hfin _ ?_, fun y => hfin _ ?_⟩, fun z => hfin _ ?_, fun z0 z1 z2 z3 z4 z5 => hfin _ ?_⟩
        · rw [nv 0 z (by omega)]; rfl
        · rw [nv 1 z (by omega)]; rfl
        · rw [nv 2 z (by omega)]; rfl
        · rw [nv 3 z (by omega)]; rfl
        · rw [nv 4 z (by omega)]; exact y.symm
        · rw [nv 4 z (by omega)]
          show _ = if g_el s = true then (1 : Int32) else 0
          cases he : g_el s with
          | true => rfl
          | false => rw [he] at y; exact absurd rfl y
        · rw [nv 5 z (by omega)]; rfl
        · have nk : ∀ k, ¬ nI v = nI k → v ≠ k := fun k hz e => hz (by rw [e])
          have := nk 0 z0
          have := nk 1 z1
          have := nk 2 z2
          have := nk 3 z3
          have := nk 4 z4
          have := nk 5 z5
          rw [show v = 6 by omega]; rfl
      · rw [d40]; exact nI_le (Nat.le_refl _) (by omega)
    | succ e ih =>
      intro i hi
      obtain ⟨c1, c2, c3, c4, c5, -⟩ := hcr i (by omega)
      refine bRe_day_44 _ _ _ _ _ _ _ ?_
      simp (disch := omega) only [hS1.c, hS1.r_fed, hS1.s_fed, hS1.r_rKind, hS1.s_rKind, hS1.r_kind, hS1.s_kind, hS1.r_rNum, hS1.s_rNum, hS1.r_num, hS1.s_num, hS1.r_rLong, hS1.s_rLong, hS1.r_cLong, hS1.s_cLong, hS1.r_stack, hS1.s_stack, hS1.r_names, hS1.s_names, hS1.r_row, hS1.s_row, hS1.r_ruleOf, hS1.s_ruleOf, hS1.r_ways, hS1.s_ways, hS1.r_cWho, hS1.s_cWho, hS1.r_cMin, hS1.s_cMin, hS1.r_cOff, hS1.s_cOff, hS1.r_cTh, hS1.s_cTh, hS1.r_cEnd, hS1.s_cEnd, hS1.r_hds, hS1.s_hds, hS1.r_ends, hS1.s_ends, hS1.r_there, hS1.s_there, hS1.r_offd, hS1.s_offd, hS1.r_had, hS1.s_had, hS1.r_rPer, hS1.s_rPer, hS1.r_rP, hS1.s_rP, hS1.r_per, hS1.s_per, hS1.r_pr, hS1.s_pr, hS1.r_rCode, hS1.s_rCode, hS1.r_rC, hS1.s_rC, hS1.r_code, hS1.s_code, hS1.r_cd, hS1.s_cd, hS1.r_kept, hS1.s_kept, hS1.r_kp, hS1.s_kp, hS1.r_holder, hS1.s_holder, hS1.r_hd, hS1.s_hd, hS1.r_pass, hS1.s_pass, hS1.r_ps, hS1.s_ps, hS1.r_debt, hS1.s_debt, hS1.r_db, hS1.s_db, hS1.r_endBy, hS1.s_endBy, hS1.r_eb, hS1.s_eb, vpT, vpk0, clk0, vpk1, clk1, vpk2, clk2, vpk3, clk3, vpk4, clk4, vpk5, clk5, vpk6, clk6, vpk7, clk7, vpk8, clk8, vpk9, clk9, nI_clamp, nI_1, true_and, d40, c1, c3, c5]
      have hs1 : svN (g_cs s) (i + 1) = svN (g_cs s) i + (if ((g_cs s).getD i cr0).2.2.2.2.1 = -1 then 0 else 1) := rfl
      have ho1 : offN (g_cs s) (i + 1) = offN (g_cs s) i + nI ((g_cs s).getD i cr0).2.2.2.1 := rfl
      have hl1 : lastN (g_cs s) (i + 1) = if lastN (g_cs s) i < ((g_cs s).getD i cr0).2.2.2.2.2.1 then ((g_cs s).getD i cr0).2.2.2.2.2.1 else lastN (g_cs s) i := rfl
      have hn := ih (i + 1) (by omega)
      rw [hs1, ho1, hl1] at hn
      refine ⟨fun q => absurd q (nI_not_le (by omega) (by omega)), fun _ => ⟨fun z => ?_, fun z => ?_⟩⟩
      · rw [if_neg z] at hn
        refine ⟨fun y => ?_, fun y => ?_⟩
        · rw [if_neg (Int32.not_lt.mpr y)] at hn; exact hn
        · rw [if_pos (Int32.not_le.mp y)] at hn; exact hn
      · rw [if_pos z] at hn
        refine ⟨fun y => ?_, fun y => ?_⟩
        · rw [if_neg (Int32.not_lt.mpr y)] at hn; exact hn
        · rw [if_pos (Int32.not_le.mp y)] at hn; exact hn
  exact loop (g_cs s).length 0 (by omega)
theorem cIn_nI {w : Wd} (h8 : (g_cs (day0W w)).length ≤ 8) {x : Int32} : cIn w x ↔ ∃ p, p < (g_cs (day0W w)).length ∧ x = nI p := by
  constructor
  · rintro ⟨a, b⟩
    obtain ⟨v, v1, rfl⟩ := i32_nat a
    exact ⟨v, (nI_ltI (by omega) (by omega)).mp b, rfl⟩
  · rintro ⟨p, hp, rfl⟩
    exact ⟨nI_pos (by omega), (nI_ltI (by omega) (by omega)).mpr hp⟩
theorem ct_inC (M : Mm) (w : Wd) (h8 : (g_cs (day0W w)).length ≤ 8) (x : Int32) (h1 : cIn w x → Φ (.inl (some (.int 1))) M) (h0 : ¬ cIn w x → Φ (.inl (some (.int 0))) M) : Ct l G d mRe_in bc bs [.int x, .int 0, .int (nI (g_cs (day0W w)).length - 1)] M Φ := by
  refine ct_rIn M _ _ _ ?_
  by_cases z : ¬ x < 0 ∧ ¬ nI (g_cs (day0W w)).length - 1 < x
  · rw [if_pos z]; exact h1 ⟨z.1, (nI_pred_lt (by omega) z.1).mp z.2⟩
  · rw [if_neg z]; exact h0 (fun y => z ⟨y.1, (nI_pred_lt (by omega) y.1).mpr y.2⟩)
theorem ct_r_call (M : Mm) (w : Wd) (hw : WOK w) (hI : RINV M w) (x y : Int32) (hd : 7 < d) (h : RPost M (aCall w x y) Φ) : Ct l G d mRe_call bc bs [.ref 206, .int x, .int y] M Φ := by
  refine Ct.of rfl (Nat.le_of_ble_eq_true rfl) ?_
  have n8 := hw.1
  obtain ⟨hF0, hI0, t0⟩ := hI.t0 hw
  have hS0 := hI0.1
  refine bRe_call_0 _ _ _ _ ⟨hI.1.c, CallVC.cps0 (by omega) ?_⟩
  generalize m_si M 206 0 0 = M0 at *
  refine ct_asItIsW M0 w hw 0 (by omega) none 0 none 0 0 hI0.rin (fun p q => by cases q) (fun p q => by cases q) (by omega) (fun M1 hF1 hD1 hC1 => ?_)
  obtain ⟨hok, hrk⟩ := day0W_ok hw
  have hF1' := hF0.tr (hF1.mono QY.r)
  have hI1 := hI0.fr hw (hF1.mono QY.r)
  have t1 : m_i M1 206 0 = 0 := by rw [hF1.1 _ _ (by unfold QY QD; omega)]; exact t0
  have hS1 := hI1.1
  replace hD1 : RDs M1 (day0W w) := hD1
  obtain ⟨⟨d40, -, -, -, -, -, hcr⟩, -⟩ := hD1
  have h8 : (g_cs (day0W w)).length ≤ 8 := hok.2.2.2.2.2.2.2.2.2.2.1
  refine bRe_call_9 _ _ _ _ ⟨hS1.c, CallVC.cps0 (by omega) ?_⟩
  rw [d40]
  refine ct_inC M1 w h8 x (fun q1 => ?_) (fun q1 => ?_)
  rotate_left
  · refine bRe_call_21 _ _ _ _ _ _ ?_
    refine ⟨fun z => ?_, fun z => ?_⟩ <;> first | exact absurd rfl z | exact absurd z (by decide) | skip
    refine ⟨hS1.c, CallVC.cps0 (by omega) (ct_bad1 M1 _ hS1 t1 (by decide) ?_)⟩
    refine bRe_call_33 _ _ _ _ _ ?_
    refine ⟨fun z => ?_, fun z => ?_⟩ <;> first | exact absurd rfl z | exact absurd z (by decide) | skip
    exact h.fail hw hF1' hI1 (code := 1) rfl (okC_n q1)
  refine bRe_call_21 _ _ _ _ _ _ ?_
  refine ⟨fun z => ?_, fun z => ?_⟩ <;> first | exact absurd rfl z | exact absurd z (by decide) | skip
  refine ⟨hS1.c, CallVC.cps0 (by omega) (ct_bad0 M1 _ hS1 t1 ?_)⟩
  refine bRe_call_33 _ _ _ _ _ ?_
  refine ⟨fun z => ?_, fun z => ?_⟩ <;> first | exact absurd rfl z | exact absurd z (by decide) | skip
  refine CallVC.cps0 (by omega) ?_
  refine ct_inV M1 4 y (fun q2 => ?_) (fun q2 => ?_)
  rotate_left
  · refine bRe_call_43 _ _ _ _ _ _ ?_
    refine ⟨fun z => ?_, fun z => ?_⟩ <;> first | exact absurd rfl z | exact absurd z (by decide) | skip
    refine ⟨hS1.c, CallVC.cps0 (by omega) (ct_bad1 M1 _ hS1 t1 (by decide) ?_)⟩
    refine bRe_call_55 _ _ _ _ _ ?_
    refine ⟨fun z => ?_, fun z => ?_⟩ <;> first | exact absurd rfl z | exact absurd z (by decide) | skip
    exact h.fail hw hF1' hI1 (code := 2) rfl ((okC_y q1).trans (okV_n q2))
  refine bRe_call_43 _ _ _ _ _ _ ?_
  refine ⟨fun z => ?_, fun z => ?_⟩ <;> first | exact absurd rfl z | exact absurd z (by decide) | skip
  refine ⟨hS1.c, CallVC.cps0 (by omega) (ct_bad0 M1 _ hS1 t1 ?_)⟩
  refine bRe_call_55 _ _ _ _ _ ?_
  refine ⟨fun z => ?_, fun z => ?_⟩ <;> first | exact absurd rfl z | exact absurd z (by decide) | skip
  obtain ⟨k, hk, rfl⟩ := (cIn_nI h8).mp q1
  obtain ⟨v, hv, rfl⟩ := (vIn_nI (by omega)).mp q2
  obtain ⟨c1, c2, c3, c4, c5, -⟩ := hcr k hk
  have hfin : ∀ r, r = calV ((g_cs (day0W w)).getD k cr0) v → Φ (.inl (some (.int r))) M1 := fun r e => by
    refine h.done hw hF1' hI1 t1 (((okC_y q1).trans (okV_y q2)).trans ?_)
    rw [tN_nI (by omega), tN_nI (by omega), e]
  have nv : ∀ k, nI v = nI k → k < 8 → v = k := fun k e hk => (nI_eq (by omega) (by omega)).mp e
  have nk : ∀ k, ¬ nI v = nI k → v ≠ k := fun k hz e => hz (by rw [e])
  simp (disch := omega) only [hS1.c, hS1.r_fed, hS1.s_fed, hS1.r_rKind, hS1.s_rKind, hS1.r_kind, hS1.s_kind, hS1.r_rNum, hS1.s_rNum, hS1.r_num, hS1.s_num, hS1.r_rLong, hS1.s_rLong, hS1.r_cLong, hS1.s_cLong, hS1.r_stack, hS1.s_stack, hS1.r_names, hS1.s_names, hS1.r_row, hS1.s_row, hS1.r_ruleOf, hS1.s_ruleOf, hS1.r_ways, hS1.s_ways, hS1.r_cWho, hS1.s_cWho, hS1.r_cMin, hS1.s_cMin, hS1.r_cOff, hS1.s_cOff, hS1.r_cTh, hS1.s_cTh, hS1.r_cEnd, hS1.s_cEnd, hS1.r_hds, hS1.s_hds, hS1.r_ends, hS1.s_ends, hS1.r_there, hS1.s_there, hS1.r_offd, hS1.s_offd, hS1.r_had, hS1.s_had, hS1.r_rPer, hS1.s_rPer, hS1.r_rP, hS1.s_rP, hS1.r_per, hS1.s_per, hS1.r_pr, hS1.s_pr, hS1.r_rCode, hS1.s_rCode, hS1.r_rC, hS1.s_rC, hS1.r_code, hS1.s_code, hS1.r_cd, hS1.s_cd, hS1.r_kept, hS1.s_kept, hS1.r_kp, hS1.s_kp, hS1.r_holder, hS1.s_holder, hS1.r_hd, hS1.s_hd, hS1.r_pass, hS1.s_pass, hS1.r_ps, hS1.s_ps, hS1.r_debt, hS1.s_debt, hS1.r_db, hS1.s_db, hS1.r_endBy, hS1.s_endBy, hS1.r_eb, hS1.s_eb, vpT, vpk0, clk0, vpk1, clk1, vpk2, clk2, vpk3, clk3, vpk4, clk4, vpk5, clk5, vpk6, clk6, vpk7, clk7, vpk8, clk8, vpk9, clk9, nI_clamp, nI_1, true_and, c1, c2, c3, c4, c5]
  refine ⟨fun z0 => ⟨fun z1 => ⟨fun z2 => ⟨fun z3 => hfin _ ?_, fun z3 => hfin _ ?_⟩, fun z2 => hfin _ ?_⟩, fun z1 => hfin _ ?_⟩, fun z0 => hfin _ ?_⟩
  · have := nk 0 z0
    have := nk 1 z1
    have := nk 2 z2
    have := nk 3 z3
    rw [show v = 4 by omega]; rfl
  · rw [nv 3 z3 (by omega)]; rfl
  · rw [nv 2 z2 (by omega)]; rfl
  · rw [nv 1 z1 (by omega)]; rfl
  · rw [nv 0 z0 (by omega)]; rfl
end SRT
