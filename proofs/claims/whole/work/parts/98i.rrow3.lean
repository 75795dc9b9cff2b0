/-! ===== the reference: row, answered ===== -/
theorem RINV.txt {M M' : Mm} {w : Wd} (hw : WOK w) (hI : RINV M w) {n : Nat} (hn : n ≤ w_T w) {X : Nat → Nat → Prop} (F : FrS X M M') (hX : ∀ j, ¬ X 207 j) (h2 : m_i M' 206 2 = nI n) (h4 : m_i M' 206 4 = 0) (h5 : m_i M' 206 5 = 0) : RA M' n (w_tp w) 0 := by
  have hT := hw.2.2.2.2.2.1
  have hb := hw.2.2.2.2.2.2.1
  exact ⟨⟨hI.1.fr F, h2, by omega, fun j hj => ⟨by rw [F.1 _ _ (hX j)]; exact hI.2.2.2.2.1.2 j (by omega), hb j (by omega)⟩⟩, h4, by omega, h5⟩
/-- a fault told: all but the place and the tape is as it was -/
theorem RINV.flt {M M' : Mm} {w : Wd} (hw : WOK w) (hI : RINV M w) {v : Int32} {X : Nat → Nat → Prop} (F : FrS X M M') (h1 : m_i M' 206 1 = 0) (h3 : m_i M' 206 3 = v) (x11 : ¬ X 206 11) (xp : ∀ p j, p < 8 → ¬ X (218 + p) j) (x15 : ¬ X 206 15) (xk : ∀ j, ¬ X 227 j) (xn : ∀ j, ¬ X 229 j) (xc : ∀ j, ¬ X 231 j) (xd : ∀ i j, i < 10 → ¬ X (244 + i) j) (x33 : ¬ X 206 33) (x34 : ¬ X 206 34) (x37 : ¬ X 206 37) (x27 : ¬ X 206 27) (xr : ∀ j, ¬ X 256 j) (x28 : ¬ X 206 28) (xi : ∀ i j, i < 3 → ¬ X (258 + i) j) : RINV M' (wFlt w v) := by
  have hic := hw.2.2.2.2.2.2.2.2.1
  obtain ⟨a1, a2, a3, ⟨a4, a5, a6⟩, -, -, ⟨a10, a11⟩, a12, a13⟩ := hI
  refine ⟨a1.fr F, a2.fr F x11 xp, a3.fr F x15 xk xn xc xd, ⟨by rw [F.1 _ _ x33]; exact a4, by rw [F.1 _ _ x34]; exact a5, by rw [F.1 _ _ x37]; exact a6⟩, ⟨h1, fun i hi => absurd hi (Nat.not_lt_zero i)⟩, h3, ⟨by rw [F.1 _ _ x27]; exact a10, fun j hj => by rw [F.1 _ _ (xr j)]; exact a11 j hj⟩, by rw [F.1 _ _ x28]; exact a12, fun i hi => ?_⟩
  have hi' : i < w_ic w := hi
  exact (a13 i hi).fr F (fun j => xi i j (by omega))
section RR3
variable {l : Launch} {G : Gx} {d : Nat} {bc bs : Nat} {Φ : OutV → Mm → Prop}
/-- the PERSONS read become those told -/
theorem row_copy (M : Mm) (hS : RS M) (x1 : Int32) (h : ∀ M', FrS (fun a _ => 218 ≤ a ∧ a < 218 + 8) M M' → (∀ p w, p < 8 → w < 8 → m_i M' (218 + p) w = m_i M (209 + p) w) → ∀ u, Ev l G d mRe_row 108 [.ref 206, .int x1, .int (nI 8), u] [] M' bc bs Φ) : ∀ u, Ev l G d mRe_row 108 [.ref 206, .int x1, .int (nI 0), u] [] M bc bs Φ := by
  have outer : ∀ r k M1, k + r = 8 → FrS (fun a _ => 218 ≤ a ∧ a < 218 + 8) M M1 → (∀ p w, p < k → w < 8 → m_i M1 (218 + p) w = m_i M (209 + p) w) → ∀ u, Ev l G d mRe_row 108 [.ref 206, .int x1, .int (nI k), u] [] M1 bc bs Φ := by
    intro r
    induction r with
    | zero =>
      intro k M1 hk F1 hc u
      have e8 : k = 8 := by omega
      subst e8
      exact h M1 F1 hc u
    | succ r ih =>
      intro k M1 hk F1 hc u
      have inner : ∀ s i M2, i + s = 8 → FrS (fun a _ => 218 ≤ a ∧ a < 218 + 8) M M2 → (∀ p w, p < k → w < 8 → m_i M2 (218 + p) w = m_i M (209 + p) w) → (∀ w, w < i → m_i M2 (218 + k) w = m_i M (209 + k) w) → Ev l G d mRe_row 116 [.ref 206, .int x1, .int (nI k), .int (nI i)] [] M2 bc bs Φ := by
        intro s
        induction s with
        | zero =>
          intro i M2 hi F2 hc2 hw2
          have e8 : i = 8 := by omega
          subst e8
          refine bRe_row_116 _ _ _ _ _ ⟨fun _ => ?_, fun z => absurd (nI_le (a := 8) (by omega) (by omega)) z⟩
          rw [nI_1]
          refine ih (k + 1) M2 (by omega) F2 (fun p w hp hw => ?_) _
          by_cases z : p = k
          · rw [z]; exact hw2 w hw
          · exact hc2 p w (by omega) hw
        | succ s ih2 =>
          intro i M2 hi F2 hc2 hw2
          have hS2 := hS.fr F2
          refine bRe_row_116 _ _ _ _ _ ⟨fun z => absurd z (nI_not_le (b := 8) (by omega) (by omega)), fun _ => ?_⟩
          simp (disch := omega) only [hS2.c, hS2.r_fed, hS2.s_fed, hS2.r_rKind, hS2.s_rKind, hS2.r_kind, hS2.s_kind, hS2.r_rNum, hS2.s_rNum, hS2.r_num, hS2.s_num, hS2.r_rLong, hS2.s_rLong, hS2.r_cLong, hS2.s_cLong, hS2.r_stack, hS2.s_stack, hS2.r_names, hS2.s_names, hS2.r_row, hS2.s_row, hS2.r_ruleOf, hS2.s_ruleOf, hS2.r_ways, hS2.s_ways, hS2.r_cWho, hS2.s_cWho, hS2.r_cMin, hS2.s_cMin, hS2.r_cOff, hS2.s_cOff, hS2.r_cTh, hS2.s_cTh, hS2.r_cEnd, hS2.s_cEnd, hS2.r_hds, hS2.s_hds, hS2.r_ends, hS2.s_ends, hS2.r_there, hS2.s_there, hS2.r_offd, hS2.s_offd, hS2.r_had, hS2.s_had, hS2.r_rPer, hS2.s_rPer, hS2.r_rP, hS2.s_rP, hS2.r_per, hS2.s_per, hS2.r_pr, hS2.s_pr, hS2.r_rCode, hS2.s_rCode, hS2.r_rC, hS2.s_rC, hS2.r_code, hS2.s_code, hS2.r_cd, hS2.s_cd, hS2.r_kept, hS2.s_kept, hS2.r_kp, hS2.s_kp, hS2.r_holder, hS2.s_holder, hS2.r_hd, hS2.s_hd, hS2.r_pass, hS2.s_pass, hS2.r_ps, hS2.s_ps, hS2.r_debt, hS2.s_debt, hS2.r_db, hS2.s_db, hS2.r_endBy, hS2.s_endBy, hS2.r_eb, hS2.s_eb, vpT, vpk0, clk0, vpk1, clk1, vpk2, clk2, vpk3, clk3, vpk4, clk4, vpk5, clk5, vpk6, clk6, vpk7, clk7, vpk8, clk8, vpk9, clk9, nI_clamp, nI_1, true_and]
          have F3 : FrS (fun a j => a = 218 + k ∧ j = i) M2 (m_si M2 (218 + k) i (m_i M2 (209 + k) i)) := FrS.si (P := fun a j => a = 218 + k ∧ j = i) ⟨rfl, rfl⟩ _
          refine ih2 (i + 1) _ (by omega) (F2.tr (F3.mono (fun a j k => by omega))) (fun p w hp hw => ?_) (fun w hw => ?_)
          · rw [F3.1 _ _ (by omega)]; exact hc2 p w hp hw
          · rw [m_i_si]
            by_cases z : w = i
            · rw [if_pos ⟨rfl, z⟩, F2.1 _ _ (by omega), z]
            · rw [if_neg (fun y => z y.2)]; exact hw2 w (by omega)
      exact bRe_row_108 _ _ _ _ _ ⟨fun z => absurd z (nI_not_le (b := 8) (by omega) (by omega)), fun _ => inner 8 0 M1 (by omega) F1 hc (fun w hw => absurd hw (by omega))⟩
  exact outer 8 0 M (by omega) (FrS.rf _ _) (fun p w hp => absurd hp (by omega))
theorem ct_r_row (M : Mm) (w : Wd) (hw : WOK w) (hI : RINV M w) (x : Int32) (hd : 5 < d) (h : RPost M (aRow w x) Φ) : Ct l G d mRe_row bc bs [.ref 206, .int x] M Φ := by
  refine Ct.of rfl (Nat.le_of_ble_eq_true rfl) ?_
  have n8 := hw.1
  obtain ⟨hF0, hI0, t0⟩ := hI.t0 hw
  have hS0 := hI0.1
  have hT := hw.2.2.2.2.2.1
  have e1 := hI0.2.2.2.2.1.1
  refine bRe_row_0 _ _ _ ⟨hI.1.c, CallVC.cps0 (by omega) ?_⟩
  rw [e1]
  generalize m_si M 206 0 0 = M0 at *
  refine ct_inV M0 (w_T w) x (fun q => ?_) (fun q => ?_)
  rotate_left
  · refine bRe_row_15 _ _ _ _ _ _ _ ?_
    refine ⟨fun z => ?_, fun z => ?_⟩ <;> first | exact absurd rfl z | exact absurd z (by decide) | skip
    refine ⟨hS0.c, CallVC.cps0 (by omega) (ct_bad1 M0 _ hS0 t0 (by decide) ?_)⟩
    refine bRe_row_27 _ _ _ _ _ _ ?_
    refine ⟨fun z => ?_, fun z => ?_⟩ <;> first | exact absurd rfl z | exact absurd z (by decide) | skip
    exact h.fail hw hF0 hI0 (code := 1) rfl (okV_n q)
  refine bRe_row_15 _ _ _ _ _ _ _ ?_
  refine ⟨fun z => ?_, fun z => ?_⟩ <;> first | exact absurd rfl z | exact absurd z (by decide) | skip
  refine ⟨hS0.c, CallVC.cps0 (by omega) (ct_bad0 M0 _ hS0 t0 ?_)⟩
  refine bRe_row_27 _ _ _ _ _ _ ?_
  refine ⟨fun z => ?_, fun z => ?_⟩ <;> first | exact absurd rfl z | exact absurd z (by decide) | skip
  obtain ⟨n, hn, rfl⟩ := (vIn_nI (by omega)).mp q
  have ha : aRow w (nI n) = rowA w (rwS n (w_tp w)) := by
    refine (okV_y q).trans ?_
    rw [tN_nI (by omega)]
  rw [ha] at h
  refine ⟨hS0.c, CallVC.cps0 (by omega) (ct_starts M0 hS0 n (fun M1 F1 b1 b2 b4 b5 b6 b7 b8 => ?_))⟩
  refine bRe_row_37 _ _ _ _ _ ⟨(hS0.fr F1).c, ?_⟩
  have F2 : FrS (fun a j => a = 206 ∧ j = 10) M1 (m_si M1 206 10 0) := FrS.si (P := fun a j => a = 206 ∧ j = 10) ⟨rfl, rfl⟩ _
  have b10 : m_i (m_si M1 206 10 0) 206 10 = 0 := by rw [m_i_si, if_pos ⟨rfl, rfl⟩]
  generalize m_si M1 206 10 0 = M2 at F2 b10 ⊢
  have F02 : FrS XQ M0 M2 := (F1.mono (fun a j k => by unfold XQ; omega)).tr (F2.mono (fun a j k => by unfold XQ; omega))
  have c1 : m_i M2 206 1 = 0 := by rw [F2.1 _ _ (by omega)]; exact b1
  have c6 : m_i M2 206 6 = -1 := by rw [F2.1 _ _ (by omega)]; exact b6
  have c7 : m_i M2 206 7 = nI 0 := by rw [F2.1 _ _ (by omega)]; exact b7
  have hA2 : RA M2 n (w_tp w) 0 := hI0.txt hw hn F02 (fun j => by unfold XQ; omega) (by rw [F2.1 _ _ (by omega)]; exact b2) (by rw [F2.1 _ _ (by omega)]; exact b4) (by rw [F2.1 _ _ (by omega)]; exact b5)
  have hP2 : RPp M2 0 (fun _ _ => 0) := ⟨b10, by omega, fun p w hp => absurd hp (by omega), fun p hp => absurd hp (by omega)⟩
  clear b1 b2 b4 b5 b6 b7 b8 F1 F2 b10 M1
  refine CallVC.cps0 (by omega) (ct_blanksA M2 hA2 (by omega) (fun M3 F3 hA3 => ?_))
  refine row_loop M2 (n := n) (tp := w_tp w) (by omega) _ _ _ (rwS n (w_tp w)) (fun e M4 q4 F4 hA4 hP4 => ?_) (fun e M4 q4 F4 hF4 => ?_) 41 0 _ 0 _ M3 (by omega) (by omega) (F3.mono X4_Ps) hA3 (rn_idem _) (hP2.x4 F3) (by rw [X4_5 F3 (by omega)]; exact c7) rfl
  · have hS4 := hA4.1.1
    have d6 : m_i M4 206 6 = -1 := by rw [F4.1 _ _ (by unfold XPs; omega)]; exact c6
    have d1 : m_i M4 206 1 = 0 := by rw [F4.1 _ _ (by unfold XPs; omega)]; exact c1
    have F04 : FrS XQ M0 M4 := F02.tr (F4.mono (fun a j k => by unfold XPs at k; unfold XQ; omega))
    have hr : rowA w (rwS n (w_tp w)) = (0, nI (rwS n (w_tp w)).2.2.1, wRow w (rwS n (w_tp w))) := if_pos e
    rw [hr] at h
    generalize rwS n (w_tp w) = T at h hP4
    refine bRe_row_75 _ _ _ _ _ ⟨hS4.c, ?_⟩
    rw [d6]
    have F5 : FrS (fun a j => a = 206 ∧ j = 3) M4 (m_si M4 206 3 (-1)) := FrS.si (P := fun a j => a = 206 ∧ j = 3) ⟨rfl, rfl⟩ _
    have v3 : m_i (m_si M4 206 3 (-1)) 206 3 = -1 := by rw [m_i_si, if_pos ⟨rfl, rfl⟩]
    generalize m_si M4 206 3 (-1) = M5 at F5 v3 ⊢
    rw [F5.1 _ 5 (by omega), F5.1 _ 10 (by omega), hP4.1, hA4.2.2.2]
    refine ⟨fun _ => bRe_row_106 _ _ _ _ _ ?_, fun z => absurd rfl z⟩
    have F6 : FrS (fun a j => a = 206 ∧ j = 11) M5 (m_si M5 206 11 (nI T.2.2.1)) := FrS.si (P := fun a j => a = 206 ∧ j = 11) ⟨rfl, rfl⟩ _
    have v11 : m_i (m_si M5 206 11 (nI T.2.2.1)) 206 11 = nI T.2.2.1 := by rw [m_i_si, if_pos ⟨rfl, rfl⟩]
    generalize m_si M5 206 11 (nI T.2.2.1) = M6 at F6 v11 ⊢
    have F46 : FrS (fun a j => a = 206 ∧ (j = 3 ∨ j = 11)) M4 M6 := (F5.mono (fun a j k => by omega)).tr (F6.mono (fun a j k => by omega))
    refine row_copy M6 (hS4.fr F46) _ (fun M7 F7 hc7 u => ?_) _
    have hS7 := (hS4.fr F46).fr F7
    refine bRe_row_108 _ _ _ _ _ ⟨fun _ => ⟨hS7.c, ?_⟩, fun z => absurd (nI_le (a := 8) (by omega) (by omega)) z⟩
    have F8 : FrS (fun a j => a = 206 ∧ (j = 27 ∨ j = 28)) M7 (m_si (m_si M7 206 27 0) 206 28 0) := (FrS.si (P := fun a j => a = 206 ∧ (j = 27 ∨ j = 28)) ⟨rfl, by omega⟩ _).tr (FrS.si ⟨rfl, by omega⟩ _)
    have v27 : m_i (m_si (m_si M7 206 27 0) 206 28 0) 206 27 = 0 := by rw [m_i_si, if_neg (by omega), m_i_si, if_pos ⟨rfl, rfl⟩]
    have v28 : m_i (m_si (m_si M7 206 27 0) 206 28 0) 206 28 = 0 := by rw [m_i_si, if_pos ⟨rfl, rfl⟩]
    generalize m_si (m_si M7 206 27 0) 206 28 0 = M8 at F8 v27 v28 ⊢
    have F48 : FrS (fun a j => (a = 206 ∧ (j = 3 ∨ j = 11 ∨ j = 27 ∨ j = 28)) ∨ (218 ≤ a ∧ a < 218 + 8)) M4 M8 := ((F46.mono (fun a j k => by omega)).tr (F7.mono (fun a j k => by omega))).tr (F8.mono (fun a j k => by omega))
    have F08 : FrS (fun a j => XQ a j ∨ ((a = 206 ∧ (j = 3 ∨ j = 11 ∨ j = 27 ∨ j = 28)) ∨ (218 ≤ a ∧ a < 218 + 8))) M0 M8 := (F04.mono (fun a j k => Or.inl k)).tr (F48.mono (fun a j k => Or.inr k))
    have w11 : m_i M8 206 11 = nI T.2.2.1 := by rw [F8.1 _ _ (by omega), F7.1 _ _ (by omega)]; exact v11
    refine bRe_row_160 _ _ _ _ _ ⟨hS7.fr F8 |>.c, ?_⟩
    rw [w11]
    obtain ⟨a1, a2, a3, ⟨a4, a5, a6⟩, -, -, ⟨a10, a11⟩, a12, a13⟩ := hI0
    refine h M8 ((hF0.mono QR.f).tr (F08.mono (fun a j k => by unfold XQ at k; unfold RF; omega))) ⟨hS0.fr F08, ⟨w11, hP4.2.1, fun p v hp hv => ?_⟩, a3.fr F08 (by unfold XQ; omega) (fun j => by unfold XQ; omega) (fun j => by unfold XQ; omega) (fun j => by unfold XQ; omega) (fun i j hi => by unfold XQ; omega), ⟨by rw [F08.1 _ _ (by unfold XQ; omega)]; exact a4, by rw [F08.1 _ _ (by unfold XQ; omega)]; exact a5, by rw [F08.1 _ _ (by unfold XQ; omega)]; exact a6⟩, ⟨by rw [F48.1 _ _ (by omega)]; exact d1, fun i hi => absurd hi (Nat.not_lt_zero i)⟩, by rw [F8.1 _ _ (by omega), F7.1 _ _ (by omega), F6.1 _ _ (by omega)]; exact v3, ⟨v27, fun j hj => by rw [F08.1 _ _ (by unfold XQ; omega)]; exact a11 j hj⟩, v28, fun i hi => absurd hi (Nat.not_lt_zero i)⟩ (by rw [F08.1 _ _ (by unfold XQ; omega)]; exact t0)
    have hp' : p < T.2.2.1 := hp
    have h8 := hP4.2.1
    rw [F8.1 _ _ (by omega), hc7 p v (by omega) hv, F46.1 _ _ (by omega)]
    exact hP4.2.2.1 p v hp' hv
  · have hS4 := hF4.1.1
    have hfc := hF4.2.2.1
    have d1 : m_i M4 206 1 = 0 := by rw [F4.1 _ _ (by unfold XP; omega)]; exact c1
    have F04 : FrS XQ M0 M4 := F02.tr (F4.mono (fun a j k => by unfold XP at k; unfold XQ; omega))
    have hr : rowA w (rwS n (w_tp w)) = (0, nI (rwS n (w_tp w)).1 - 10, wFlt w (nI (rwS n (w_tp w)).2.1)) := if_neg e
    rw [hr] at h
    refine bRe_row_75 _ _ _ _ _ ⟨hS4.c, ?_⟩
    rw [hF4.2.2.2.1]
    have F5 : FrS (fun a j => a = 206 ∧ j = 3) M4 (m_si M4 206 3 (nI (rwS n (w_tp w)).2.1)) := FrS.si (P := fun a j => a = 206 ∧ j = 3) ⟨rfl, rfl⟩ _
    have v3 : m_i (m_si M4 206 3 (nI (rwS n (w_tp w)).2.1)) 206 3 = nI (rwS n (w_tp w)).2.1 := by rw [m_i_si, if_pos ⟨rfl, rfl⟩]
    generalize m_si M4 206 3 (nI (rwS n (w_tp w)).2.1) = M5 at F5 v3 ⊢
    have v5 : m_i M5 206 5 = nI (rwS n (w_tp w)).1 := by rw [F5.1 _ _ (by omega)]; exact hF4.2.1
    have F05 : FrS (fun a j => XQ a j ∨ (a = 206 ∧ j = 3)) M0 M5 := (F04.mono (fun a j k => Or.inl k)).tr (F5.mono (fun a j k => Or.inr k))
    refine ⟨fun z => ?_, fun _ => ?_⟩
    · rw [F5.1 _ _ (by omega)] at z; exact absurd z hF4.ne
    · rw [v5]
      exact h M5 ((hF0.mono QR.f).tr (F05.mono (fun a j k => by unfold XQ at k; unfold RF; omega))) (hI0.flt hw F05 (by rw [F5.1 _ _ (by omega)]; exact d1) v3 (by unfold XQ; omega) (fun p j hp => by unfold XQ; omega) (by unfold XQ; omega) (fun j => by unfold XQ; omega) (fun j => by unfold XQ; omega) (fun j => by unfold XQ; omega) (fun i j hi => by unfold XQ; omega) (by unfold XQ; omega) (by unfold XQ; omega) (by unfold XQ; omega) (by unfold XQ; omega) (fun j => by unfold XQ; omega) (by unfold XQ; omega) (fun i j hi => by unfold XQ; omega)) (by rw [F05.1 _ _ (by unfold XQ; omega)]; exact t0)
end RR3
