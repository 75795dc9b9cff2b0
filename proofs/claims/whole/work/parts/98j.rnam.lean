/-! ===== the reference: names, kinds, codes ===== -/
def eL (S : List Int32) : List Int32 := S.flatMap (fun s => if s < 0 then [encS s] else [0, s])
theorem eL_app (A B : List Int32) : eL (A ++ B) = eL A ++ eL B := by unfold eL; rw [List.flatMap_append]
theorem eL_neg {s : Int32} (h : s < 0) : eL [s] = [encS s] := by
  unfold eL
  rw [List.flatMap_cons, List.flatMap_nil, if_pos h]
  rfl
theorem eL_num {s : Int32} (h : ¬ s < 0) : eL [s] = [0, s] := by
  unfold eL
  rw [List.flatMap_cons, List.flatMap_nil, if_neg h]
  rfl
def rkF (w : Nat) : Int32 := if w = 6 then 0 else if w = 7 then 1 else if w = 8 then 2 else if w = 9 then 3 else if w = 10 then 4 else if w = 11 then 5 else if w = 12 then 6 else if w = 13 then 7 else -1
def nmF (w : Nat) : Int32 := if w = 17 then 1 else if w = 18 then 2 else if w = 19 then 3 else if w = 20 then 4 else if w = 21 then 5 else if w = 22 then 6 else if w = 23 then 7 else 0
def rkB (w : Nat) : Bool := if 0 < wM w then decide (rkF w = nI (kdN w - 2)) && decide (¬ rkF w = -1) else decide (rkF w = -1)
theorem rkB_ok : ∀ w, (1 ≤ w ∧ w ≤ 23) → rkB w = true := w_all (p := rkB) (by decide +kernel)
def nmrB (w : Nat) : Bool := if wM w < 0 then decide (nmF w = encS (wM w)) && decide (¬ nmF w ≤ 0) else decide (nmF w ≤ 0)
theorem nmrB_ok : ∀ w, (1 ≤ w ∧ w ≤ 23) → nmrB w = true := w_all (p := nmrB) (by decide +kernel)
theorem rk_of {w : Nat} (hw : 1 ≤ w ∧ w ≤ 23) : (0 < wM w → rkF w = nI (kdN w - 2) ∧ ¬ rkF w = -1) ∧ (¬ 0 < wM w → rkF w = -1) := by
  have k := rkB_ok w hw
  unfold rkB at k
  refine ⟨fun z => ?_, fun z => ?_⟩
  · rw [if_pos z] at k
    simp only [Bool.and_eq_true, decide_eq_true_eq] at k
    exact k
  · rw [if_neg z] at k
    exact of_decide_eq_true k
theorem nm_of {w : Nat} (hw : 1 ≤ w ∧ w ≤ 23) : (wM w < 0 → nmF w = encS (wM w) ∧ ¬ nmF w ≤ 0) ∧ (¬ wM w < 0 → nmF w ≤ 0) := by
  have k := nmrB_ok w hw
  unfold nmrB at k
  refine ⟨fun z => ?_, fun z => ?_⟩
  · rw [if_pos z] at k
    simp only [Bool.and_eq_true, decide_eq_true_eq] at k
    exact k
  · rw [if_neg z] at k
    exact of_decide_eq_true k
section RNM
variable {l : Launch} {G : Gx} {d : Nat} {bc bs : Nat} {Φ : OutV → Mm → Prop}
theorem ct_ruleHere (M : Mm) {n : Nat} {tp : Nat → Nat} {p : Nat} (hA : RA M n tp p) (hp : rn n tp isb p = p) (hd : 3 < d) (h : ∀ M', FrS X4 M M' → RA M' n tp p → Φ (.inl (some (.int (rkF (wd n tp p))))) M') : Ct l G d mRe_ruleHere bc bs [.ref 206] M Φ := by
  unfold rkF at h
  refine Ct.of rfl (Nat.le_of_ble_eq_true rfl) ?_
  refine bRe_ruleHere_0 _ _ (CallVC.cps0 (by omega) (ct_five M _ _ _ _ _ (bRe_ruleHere_10 _ _ _ _ ⟨hA.1.1.c, CallVC.cps0 (by omega) (ct_isWordP M hA hp (w := 6) (by omega) (by decide +kernel) (by omega) (fun M1 G1 hA1 => ?_))⟩)))
  have F1 := G1
  refine bRe_ruleHere_13 _ _ _ ⟨fun z0 => ?_, fun z0 => ?_⟩
  rotate_left
  · have hh := h M1 F1 hA1
    rw [if_pos (ite10.2 z0)] at hh
    exact hh
  have n0 := ite10.1 z0
  refine CallVC.cps0 (by omega) (ct_five M1 _ _ _ _ _ (bRe_ruleHere_31 _ _ _ _ ⟨hA1.1.1.c, CallVC.cps0 (by omega) (ct_isWordP M1 hA1 hp (w := 7) (by omega) (by decide +kernel) (by omega) (fun M2 G2 hA2 => ?_))⟩))
  have F2 := F1.tr G2
  refine bRe_ruleHere_34 _ _ _ ⟨fun z1 => ?_, fun z1 => ?_⟩
  rotate_left
  · have hh := h M2 F2 hA2
    rw [if_neg n0, if_pos (ite10.2 z1)] at hh
    exact hh
  have n1 := ite10.1 z1
  refine CallVC.cps0 (by omega) (ct_five M2 _ _ _ _ _ (bRe_ruleHere_50 _ _ _ _ ⟨hA2.1.1.c, CallVC.cps0 (by omega) (ct_isWordP M2 hA2 hp (w := 8) (by omega) (by decide +kernel) (by omega) (fun M3 G3 hA3 => ?_))⟩))
  have F3 := F2.tr G3
  refine bRe_ruleHere_53 _ _ _ ⟨fun z2 => ?_, fun z2 => ?_⟩
  rotate_left
  · have hh := h M3 F3 hA3
    rw [if_neg n0, if_neg n1, if_pos (ite10.2 z2)] at hh
    exact hh
  have n2 := ite10.1 z2
  refine CallVC.cps0 (by omega) (ct_five M3 _ _ _ _ _ (bRe_ruleHere_71 _ _ _ _ ⟨hA3.1.1.c, CallVC.cps0 (by omega) (ct_isWordP M3 hA3 hp (w := 9) (by omega) (by decide +kernel) (by omega) (fun M4 G4 hA4 => ?_))⟩))
  have F4 := F3.tr G4
  refine bRe_ruleHere_74 _ _ _ ⟨fun z3 => ?_, fun z3 => ?_⟩
  rotate_left
  · have hh := h M4 F4 hA4
    rw [if_neg n0, if_neg n1, if_neg n2, if_pos (ite10.2 z3)] at hh
    exact hh
  have n3 := ite10.1 z3
  refine CallVC.cps0 (by omega) (ct_five M4 _ _ _ _ _ (bRe_ruleHere_90 _ _ _ _ ⟨hA4.1.1.c, CallVC.cps0 (by omega) (ct_isWordP M4 hA4 hp (w := 10) (by omega) (by decide +kernel) (by omega) (fun M5 G5 hA5 => ?_))⟩))
  have F5 := F4.tr G5
  refine bRe_ruleHere_93 _ _ _ ⟨fun z4 => ?_, fun z4 => ?_⟩
  rotate_left
  · have hh := h M5 F5 hA5
    rw [if_neg n0, if_neg n1, if_neg n2, if_neg n3, if_pos (ite10.2 z4)] at hh
    exact hh
  have n4 := ite10.1 z4
  refine CallVC.cps0 (by omega) (ct_five M5 _ _ _ _ _ (bRe_ruleHere_110 _ _ _ _ ⟨hA5.1.1.c, CallVC.cps0 (by omega) (ct_isWordP M5 hA5 hp (w := 11) (by omega) (by decide +kernel) (by omega) (fun M6 G6 hA6 => ?_))⟩))
  have F6 := F5.tr G6
  refine bRe_ruleHere_113 _ _ _ ⟨fun z5 => ?_, fun z5 => ?_⟩
  rotate_left
  · have hh := h M6 F6 hA6
    rw [if_neg n0, if_neg n1, if_neg n2, if_neg n3, if_neg n4, if_pos (ite10.2 z5)] at hh
    exact hh
  have n5 := ite10.1 z5
  refine CallVC.cps0 (by omega) (ct_five M6 _ _ _ _ _ (bRe_ruleHere_132 _ _ _ _ ⟨hA6.1.1.c, CallVC.cps0 (by omega) (ct_isWordP M6 hA6 hp (w := 12) (by omega) (by decide +kernel) (by omega) (fun M7 G7 hA7 => ?_))⟩))
  have F7 := F6.tr G7
  refine bRe_ruleHere_135 _ _ _ ⟨fun z6 => ?_, fun z6 => ?_⟩
  rotate_left
  · have hh := h M7 F7 hA7
    rw [if_neg n0, if_neg n1, if_neg n2, if_neg n3, if_neg n4, if_neg n5, if_pos (ite10.2 z6)] at hh
    exact hh
  have n6 := ite10.1 z6
  refine CallVC.cps0 (by omega) (ct_five M7 _ _ _ _ _ (bRe_ruleHere_154 _ _ _ _ ⟨hA7.1.1.c, CallVC.cps0 (by omega) (ct_isWordP M7 hA7 hp (w := 13) (by omega) (by decide +kernel) (by omega) (fun M8 G8 hA8 => ?_))⟩))
  have F8 := F7.tr G8
  refine bRe_ruleHere_157 _ _ _ ⟨fun z7 => ?_, fun z7 => ?_⟩
  · have hh := h M8 F8 hA8
    rw [if_neg n0, if_neg n1, if_neg n2, if_neg n3, if_neg n4, if_neg n5, if_neg n6, if_neg (ite10.1 z7)] at hh
    exact hh
  · have hh := h M8 F8 hA8
    rw [if_neg n0, if_neg n1, if_neg n2, if_neg n3, if_neg n4, if_neg n5, if_neg n6, if_pos (ite10.2 z7)] at hh
    exact hh
theorem ct_nameHere (M : Mm) {n : Nat} {tp : Nat → Nat} {p : Nat} (hA : RA M n tp p) (hp : rn n tp isb p = p) (hd : 3 < d) (h : ∀ M', FrS X4 M M' → RA M' n tp p → Φ (.inl (some (.int (nmF (wd n tp p))))) M') : Ct l G d mRe_nameHere bc bs [.ref 206] M Φ := by
  unfold nmF at h
  refine Ct.of rfl (Nat.le_of_ble_eq_true rfl) ?_
  refine bRe_nameHere_0 _ _ (CallVC.cps0 (by omega) (ct_five M _ _ _ _ _ (bRe_nameHere_10 _ _ _ _ ⟨hA.1.1.c, CallVC.cps0 (by omega) (ct_isWordP M hA hp (w := 17) (by omega) (by decide +kernel) (by omega) (fun M1 G1 hA1 => ?_))⟩)))
  have F1 := G1
  refine bRe_nameHere_13 _ _ _ ⟨fun z0 => ?_, fun z0 => ?_⟩
  rotate_left
  · have hh := h M1 F1 hA1
    rw [if_pos (ite10.2 z0)] at hh
    exact hh
  have n0 := ite10.1 z0
  refine CallVC.cps0 (by omega) (ct_five M1 _ _ _ _ _ (bRe_nameHere_29 _ _ _ _ ⟨hA1.1.1.c, CallVC.cps0 (by omega) (ct_isWordP M1 hA1 hp (w := 18) (by omega) (by decide +kernel) (by omega) (fun M2 G2 hA2 => ?_))⟩))
  have F2 := F1.tr G2
  refine bRe_nameHere_32 _ _ _ ⟨fun z1 => ?_, fun z1 => ?_⟩
  rotate_left
  · have hh := h M2 F2 hA2
    rw [if_neg n0, if_pos (ite10.2 z1)] at hh
    exact hh
  have n1 := ite10.1 z1
  refine CallVC.cps0 (by omega) (ct_five M2 _ _ _ _ _ (bRe_nameHere_52 _ _ _ _ _ ⟨hA2.1.1.c, CallVC.cps0 (by omega) (ct_isWordP M2 hA2 hp (w := 19) (by omega) (by decide +kernel) (by omega) (fun M3 G3 hA3 => ?_))⟩))
  have F3 := F2.tr G3
  refine bRe_nameHere_60 _ _ _ ⟨fun z2 => ?_, fun z2 => ?_⟩
  rotate_left
  · have hh := h M3 F3 hA3
    rw [if_neg n0, if_neg n1, if_pos (ite10.2 z2)] at hh
    exact hh
  have n2 := ite10.1 z2
  refine CallVC.cps0 (by omega) (ct_five M3 _ _ _ _ _ (bRe_nameHere_77 _ _ _ _ ⟨hA3.1.1.c, CallVC.cps0 (by omega) (ct_isWordP M3 hA3 hp (w := 20) (by omega) (by decide +kernel) (by omega) (fun M4 G4 hA4 => ?_))⟩))
  have F4 := F3.tr G4
  refine bRe_nameHere_80 _ _ _ ⟨fun z3 => ?_, fun z3 => ?_⟩
  rotate_left
  · have hh := h M4 F4 hA4
    rw [if_neg n0, if_neg n1, if_neg n2, if_pos (ite10.2 z3)] at hh
    exact hh
  have n3 := ite10.1 z3
  refine CallVC.cps0 (by omega) (ct_five M4 _ _ _ _ _ (bRe_nameHere_103 _ _ _ _ _ _ ⟨hA4.1.1.c, CallVC.cps0 (by omega) (ct_isWordP M4 hA4 hp (w := 21) (by omega) (by decide +kernel) (by omega) (fun M5 G5 hA5 => ?_))⟩))
  have F5 := F4.tr G5
  refine bRe_nameHere_116 _ _ _ ⟨fun z4 => ?_, fun z4 => ?_⟩
  rotate_left
  · have hh := h M5 F5 hA5
    rw [if_neg n0, if_neg n1, if_neg n2, if_neg n3, if_pos (ite10.2 z4)] at hh
    exact hh
  have n4 := ite10.1 z4
  refine CallVC.cps0 (by omega) (ct_five M5 _ _ _ _ _ (bRe_nameHere_137 _ _ _ _ _ ⟨hA5.1.1.c, CallVC.cps0 (by omega) (ct_isWordP M5 hA5 hp (w := 22) (by omega) (by decide +kernel) (by omega) (fun M6 G6 hA6 => ?_))⟩))
  have F6 := F5.tr G6
  refine bRe_nameHere_145 _ _ _ ⟨fun z5 => ?_, fun z5 => ?_⟩
  rotate_left
  · have hh := h M6 F6 hA6
    rw [if_neg n0, if_neg n1, if_neg n2, if_neg n3, if_neg n4, if_pos (ite10.2 z5)] at hh
    exact hh
  have n5 := ite10.1 z5
  refine CallVC.cps0 (by omega) (ct_five M6 _ _ _ _ _ (bRe_nameHere_164 _ _ _ _ ⟨hA6.1.1.c, CallVC.cps0 (by omega) (ct_isWordP M6 hA6 hp (w := 23) (by omega) (by decide +kernel) (by omega) (fun M7 G7 hA7 => ?_))⟩))
  have F7 := F6.tr G7
  refine bRe_nameHere_167 _ _ _ ⟨fun z6 => ?_, fun z6 => ?_⟩
  · have hh := h M7 F7 hA7
    rw [if_neg n0, if_neg n1, if_neg n2, if_neg n3, if_neg n4, if_neg n5, if_neg (ite10.1 z6)] at hh
    exact hh
  · have hh := h M7 F7 hA7
    rw [if_neg n0, if_neg n1, if_neg n2, if_neg n3, if_neg n4, if_neg n5, if_pos (ite10.2 z6)] at hh
    exact hh
theorem ct_nameHF (M : Mm) {n : Nat} {tp : Nat → Nat} {fc fp q : Nat} (hF : RFt M n tp fc fp q) (hd : 3 < d) (h : Φ (.inl (some (.int 0))) M) : Ct l G d mRe_nameHere bc bs [.ref 206] M Φ := by
  refine Ct.of rfl (Nat.le_of_ble_eq_true rfl) ?_
  refine bRe_nameHere_0 _ _ (CallVC.cps0 (by omega) (ct_five M _ _ _ _ _ (bRe_nameHere_10 _ _ _ _ ⟨hF.1.1.c, CallVC.cps0 (by omega) (ct_isWordF M hF _ ?_)⟩)))
  refine bRe_nameHere_13 _ _ _ ⟨fun _ => ?_, fun z => absurd rfl z⟩
  refine (CallVC.cps0 (by omega) (ct_five M _ _ _ _ _ (bRe_nameHere_29 _ _ _ _ ⟨hF.1.1.c, CallVC.cps0 (by omega) (ct_isWordF M hF _ ?_)⟩)))
  refine bRe_nameHere_32 _ _ _ ⟨fun _ => ?_, fun z => absurd rfl z⟩
  refine (CallVC.cps0 (by omega) (ct_five M _ _ _ _ _ (bRe_nameHere_52 _ _ _ _ _ ⟨hF.1.1.c, CallVC.cps0 (by omega) (ct_isWordF M hF _ ?_)⟩)))
  refine bRe_nameHere_60 _ _ _ ⟨fun _ => ?_, fun z => absurd rfl z⟩
  refine (CallVC.cps0 (by omega) (ct_five M _ _ _ _ _ (bRe_nameHere_77 _ _ _ _ ⟨hF.1.1.c, CallVC.cps0 (by omega) (ct_isWordF M hF _ ?_)⟩)))
  refine bRe_nameHere_80 _ _ _ ⟨fun _ => ?_, fun z => absurd rfl z⟩
  refine (CallVC.cps0 (by omega) (ct_five M _ _ _ _ _ (bRe_nameHere_103 _ _ _ _ _ _ ⟨hF.1.1.c, CallVC.cps0 (by omega) (ct_isWordF M hF _ ?_)⟩)))
  refine bRe_nameHere_116 _ _ _ ⟨fun _ => ?_, fun z => absurd rfl z⟩
  refine (CallVC.cps0 (by omega) (ct_five M _ _ _ _ _ (bRe_nameHere_137 _ _ _ _ _ ⟨hF.1.1.c, CallVC.cps0 (by omega) (ct_isWordF M hF _ ?_)⟩)))
  refine bRe_nameHere_145 _ _ _ ⟨fun _ => ?_, fun z => absurd rfl z⟩
  refine (CallVC.cps0 (by omega) (ct_five M _ _ _ _ _ (bRe_nameHere_164 _ _ _ _ ⟨hF.1.1.c, CallVC.cps0 (by omega) (ct_isWordF M hF _ ?_)⟩)))
  exact bRe_nameHere_167 _ _ _ ⟨fun _ => h, fun z => absurd rfl z⟩
theorem ct_tells (M : Mm) (hS : RS M) (r k : Nat) (c : Int32) (h14 : m_i M 206 14 = nI r) (hr : r < 10) (h16 : m_i M 206 16 = nI k) (hk : k < 800) (h : Φ (.inl none) (m_si (m_si M (233 + r) k c) 206 16 (nI (k + 1)))) : Ct l G d mRe_tells bc bs [.ref 206, .int c] M Φ := by
  refine Ct.of rfl (Nat.le_of_ble_eq_true rfl) (bRe_tells_0 _ _ _ ?_)
  simp (disch := omega) only [hS.c, hS.r_fed, hS.s_fed, hS.r_rKind, hS.s_rKind, hS.r_kind, hS.s_kind, hS.r_rNum, hS.s_rNum, hS.r_num, hS.s_num, hS.r_rLong, hS.s_rLong, hS.r_cLong, hS.s_cLong, hS.r_stack, hS.s_stack, hS.r_names, hS.s_names, hS.r_row, hS.s_row, hS.r_ruleOf, hS.s_ruleOf, hS.r_ways, hS.s_ways, hS.r_cWho, hS.s_cWho, hS.r_cMin, hS.s_cMin, hS.r_cOff, hS.s_cOff, hS.r_cTh, hS.s_cTh, hS.r_cEnd, hS.s_cEnd, hS.r_hds, hS.s_hds, hS.r_ends, hS.s_ends, hS.r_there, hS.s_there, hS.r_offd, hS.s_offd, hS.r_had, hS.s_had, hS.r_rPer, hS.s_rPer, hS.r_rP, hS.s_rP, hS.r_per, hS.s_per, hS.r_pr, hS.s_pr, hS.r_rCode, hS.s_rCode, hS.r_rC, hS.s_rC, hS.r_code, hS.s_code, hS.r_cd, hS.s_cd, hS.r_kept, hS.s_kept, hS.r_kp, hS.s_kp, hS.r_holder, hS.s_holder, hS.r_hd, hS.s_hd, hS.r_pass, hS.s_pass, hS.r_ps, hS.s_ps, hS.r_debt, hS.s_debt, hS.r_db, hS.s_db, hS.r_endBy, hS.s_endBy, hS.r_eb, hS.s_eb, vpT, vpk0, clk0, vpk1, clk1, vpk2, clk2, vpk3, clk3, vpk4, clk4, vpk5, clk5, vpk6, clk6, vpk7, clk7, vpk8, clk8, vpk9, clk9, nI_clamp, nI_1, true_and, h14, h16]
  rw [m_i_si, if_neg (by omega), h16, nI_1]
  exact h
end RNM
