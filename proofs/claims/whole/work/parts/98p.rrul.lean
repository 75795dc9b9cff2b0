/-! ===== the reference: RULES ===== -/
def XMr : Nat → Nat → Prop := fun a j => (a = 206 ∧ (j = 4 ∨ j = 8 ∨ j = 14 ∨ j = 16)) ∨ a = 226 ∨ a = 228 ∨ a = 230 ∨ (233 ≤ a ∧ a < 233 + 10)
def XMq : Nat → Nat → Prop := fun a j => (a = 206 ∧ (j = 4 ∨ j = 5 ∨ j = 6 ∨ j = 8 ∨ j = 14 ∨ j = 16)) ∨ a = 226 ∨ a = 228 ∨ a = 230 ∨ (233 ≤ a ∧ a < 233 + 10)
theorem XMr_q : ∀ a j, XMr a j → XMq a j := fun a j h => by unfold XMr at h; unfold XMq; omega
theorem X4_Mr : ∀ a j, X4 a j → XMr a j := fun a j h => by unfold X4 at h; unfold XMr; omega
theorem X46_Mq : ∀ a j, X46 a j → XMq a j := fun a j h => by unfold X46 at h; unfold XMq; omega
theorem XRs_Mr {r : Nat} (hr : r < 10) : ∀ a j, XRs r a j → XMr a j := fun a j h => by unfold XRs at h; unfold XMr; omega
theorem XRf_Mq {r : Nat} (hr : r < 10) : ∀ a j, XRf r a j → XMq a j := fun a j h => by unfold XRf at h; unfold XMq; omega
/-- one RULE as the reference has read it -/
def RL1 (M : Mm) (i : Nat) (r : RU) : Prop := m_i M 226 i = nI (r.1 - 2) ∧ m_i M 228 i = nI r.2.1 ∧ m_i M 230 i = nI (eL r.2.2).length ∧ (eL r.2.2).length ≤ 800 ∧ ∀ j, j < (eL r.2.2).length → m_i M (233 + i) j = stL (eL r.2.2) j
def RLs (M : Mm) (R : List RU) : Prop := m_i M 206 14 = nI R.length ∧ R.length ≤ 10 ∧ ∀ i, i < R.length → RL1 M i (R.getD i ru0)
theorem RL1.fr {M M' : Mm} {i : Nat} {r : RU} {X : Nat → Nat → Prop} (h : RL1 M i r) (F : FrS X M M') (h1 : ¬ X 226 i) (h2 : ¬ X 228 i) (h3 : ¬ X 230 i) (h4 : ∀ j, ¬ X (233 + i) j) : RL1 M' i r := by
  obtain ⟨a, b, c, e, f⟩ := h
  exact ⟨by rw [F.1 _ _ h1]; exact a, by rw [F.1 _ _ h2]; exact b, by rw [F.1 _ _ h3]; exact c, e, fun j hj => by rw [F.1 _ _ (h4 j)]; exact f j hj⟩
def RuPost (M : Mm) (n : Nat) (tp : Nat → Nat) (R : List RU) (T : RLt) (Φ : OutV → Mm → Prop) : Prop :=
  (T.1 = 0 → ∀ M' q', FrS XMr M M' → RA M' n tp q' → rn n tp isb q' = T.2.1 → RLs M' (R ++ [T.2.2]) → m_i M' 206 8 = 0 → Φ (.inl none) M') ∧ (¬ T.1 = 0 → ∀ M' q', FrS XMq M M' → RFt M' n tp T.1 T.2.1 q' → Φ (.inl none) M')
section RRU
variable {l : Launch} {G : Gx} {d : Nat} {bc bs : Nat} {Φ : OutV → Mm → Prop}
/-- the RULE read is laid down; its end -/
theorem ru_end (M M1 : Mm) {n : Nat} {tp : Nat → Nat} {R : List RU} {r : RU} {q : Nat} (T : RLt) (x1 x2 : Int32) (hx1 : x1 = nI (r.1 - 2)) (hx2 : x2 = nI r.2.1) (F1 : FrS XMr M M1) (hC : RCs M1 n tp q 0 R.length (eL r.2.2)) (hl : (eL r.2.2).length ≤ 800) (hR : ∀ i, i < R.length → RL1 M1 i (R.getD i ru0)) (hT : T = enR n tp (0, rn n tp isb q, r)) (hd : 2 < d) (h : RuPost M n tp R T Φ) : Ev l G d mRe_rule 138 [.ref 206, .int x1, .int x2] [] M1 bc bs Φ := by
  subst hx1 hx2
  obtain ⟨hA, h8, h14, hr, h16, hc⟩ := hC
  have hS := hA.1.1
  refine bRe_rule_138 _ _ _ _ ?_
  simp (disch := omega) only [hS.c, hS.r_fed, hS.s_fed, hS.r_rKind, hS.s_rKind, hS.r_kind, hS.s_kind, hS.r_rNum, hS.s_rNum, hS.r_num, hS.s_num, hS.r_rLong, hS.s_rLong, hS.r_cLong, hS.s_cLong, hS.r_stack, hS.s_stack, hS.r_names, hS.s_names, hS.r_row, hS.s_row, hS.r_ruleOf, hS.s_ruleOf, hS.r_ways, hS.s_ways, hS.r_cWho, hS.s_cWho, hS.r_cMin, hS.s_cMin, hS.r_cOff, hS.s_cOff, hS.r_cTh, hS.s_cTh, hS.r_cEnd, hS.s_cEnd, hS.r_hds, hS.s_hds, hS.r_ends, hS.s_ends, hS.r_there, hS.s_there, hS.r_offd, hS.s_offd, hS.r_had, hS.s_had, hS.r_rPer, hS.s_rPer, hS.r_rP, hS.s_rP, hS.r_per, hS.s_per, hS.r_pr, hS.s_pr, hS.r_rCode, hS.s_rCode, hS.r_rC, hS.s_rC, hS.r_code, hS.s_code, hS.r_cd, hS.s_cd, hS.r_kept, hS.s_kept, hS.r_kp, hS.s_kp, hS.r_holder, hS.s_holder, hS.r_hd, hS.s_hd, hS.r_pass, hS.s_pass, hS.r_ps, hS.s_ps, hS.r_debt, hS.s_debt, hS.r_db, hS.s_db, hS.r_endBy, hS.s_endBy, hS.r_eb, hS.s_eb, vpT, vpk0, clk0, vpk1, clk1, vpk2, clk2, vpk3, clk3, vpk4, clk4, vpk5, clk5, vpk6, clk6, vpk7, clk7, vpk8, clk8, vpk9, clk9, nI_clamp, nI_1, true_and, h14]
  rw [m_i_si, if_neg (by omega), h14]
  simp (disch := omega) only [hS.c, hS.r_fed, hS.s_fed, hS.r_rKind, hS.s_rKind, hS.r_kind, hS.s_kind, hS.r_rNum, hS.s_rNum, hS.r_num, hS.s_num, hS.r_rLong, hS.s_rLong, hS.r_cLong, hS.s_cLong, hS.r_stack, hS.s_stack, hS.r_names, hS.s_names, hS.r_row, hS.s_row, hS.r_ruleOf, hS.s_ruleOf, hS.r_ways, hS.s_ways, hS.r_cWho, hS.s_cWho, hS.r_cMin, hS.s_cMin, hS.r_cOff, hS.s_cOff, hS.r_cTh, hS.s_cTh, hS.r_cEnd, hS.s_cEnd, hS.r_hds, hS.s_hds, hS.r_ends, hS.s_ends, hS.r_there, hS.s_there, hS.r_offd, hS.s_offd, hS.r_had, hS.s_had, hS.r_rPer, hS.s_rPer, hS.r_rP, hS.s_rP, hS.r_per, hS.s_per, hS.r_pr, hS.s_pr, hS.r_rCode, hS.s_rCode, hS.r_rC, hS.s_rC, hS.r_code, hS.s_code, hS.r_cd, hS.s_cd, hS.r_kept, hS.s_kept, hS.r_kp, hS.s_kp, hS.r_holder, hS.s_holder, hS.r_hd, hS.s_hd, hS.r_pass, hS.s_pass, hS.r_ps, hS.s_ps, hS.r_debt, hS.s_debt, hS.r_db, hS.s_db, hS.r_endBy, hS.s_endBy, hS.r_eb, hS.s_eb, vpT, vpk0, clk0, vpk1, clk1, vpk2, clk2, vpk3, clk3, vpk4, clk4, vpk5, clk5, vpk6, clk6, vpk7, clk7, vpk8, clk8, vpk9, clk9, nI_clamp, nI_1, true_and, h14]
  have F2 : FrS (fun a j => (a = 226 ∨ a = 228) ∧ j = R.length) M1 (m_si (m_si M1 226 R.length (nI (r.1 - 2))) 228 R.length (nI r.2.1)) := (FrS.si (P := fun a j => (a = 226 ∨ a = 228) ∧ j = R.length) ⟨Or.inl rfl, rfl⟩ _).tr (FrS.si ⟨Or.inr rfl, rfl⟩ _)
  have v1 : m_i (m_si (m_si M1 226 R.length (nI (r.1 - 2))) 228 R.length (nI r.2.1)) 226 R.length = nI (r.1 - 2) := by rw [m_i_si, if_neg (by omega), m_i_si, if_pos ⟨rfl, rfl⟩]
  have v2 : m_i (m_si (m_si M1 226 R.length (nI (r.1 - 2))) 228 R.length (nI r.2.1)) 228 R.length = nI r.2.1 := by rw [m_i_si, if_pos ⟨rfl, rfl⟩]
  generalize m_si (m_si M1 226 R.length (nI (r.1 - 2))) 228 R.length (nI r.2.1) = M2 at F2 v1 v2 ⊢
  have hS2 := hS.fr F2
  have g14 : m_i M2 206 14 = nI R.length := by rw [F2.1 _ _ (by omega)]; exact h14
  have g16 : m_i M2 206 16 = nI (eL r.2.2).length := by rw [F2.1 _ _ (by omega)]; exact h16
  refine bRe_rule_158 _ _ _ _ ?_
  simp (disch := omega) only [hS2.c, hS2.r_fed, hS2.s_fed, hS2.r_rKind, hS2.s_rKind, hS2.r_kind, hS2.s_kind, hS2.r_rNum, hS2.s_rNum, hS2.r_num, hS2.s_num, hS2.r_rLong, hS2.s_rLong, hS2.r_cLong, hS2.s_cLong, hS2.r_stack, hS2.s_stack, hS2.r_names, hS2.s_names, hS2.r_row, hS2.s_row, hS2.r_ruleOf, hS2.s_ruleOf, hS2.r_ways, hS2.s_ways, hS2.r_cWho, hS2.s_cWho, hS2.r_cMin, hS2.s_cMin, hS2.r_cOff, hS2.s_cOff, hS2.r_cTh, hS2.s_cTh, hS2.r_cEnd, hS2.s_cEnd, hS2.r_hds, hS2.s_hds, hS2.r_ends, hS2.s_ends, hS2.r_there, hS2.s_there, hS2.r_offd, hS2.s_offd, hS2.r_had, hS2.s_had, hS2.r_rPer, hS2.s_rPer, hS2.r_rP, hS2.s_rP, hS2.r_per, hS2.s_per, hS2.r_pr, hS2.s_pr, hS2.r_rCode, hS2.s_rCode, hS2.r_rC, hS2.s_rC, hS2.r_code, hS2.s_code, hS2.r_cd, hS2.s_cd, hS2.r_kept, hS2.s_kept, hS2.r_kp, hS2.s_kp, hS2.r_holder, hS2.s_holder, hS2.r_hd, hS2.s_hd, hS2.r_pass, hS2.s_pass, hS2.r_ps, hS2.s_ps, hS2.r_debt, hS2.s_debt, hS2.r_db, hS2.s_db, hS2.r_endBy, hS2.s_endBy, hS2.r_eb, hS2.s_eb, vpT, vpk0, clk0, vpk1, clk1, vpk2, clk2, vpk3, clk3, vpk4, clk4, vpk5, clk5, vpk6, clk6, vpk7, clk7, vpk8, clk8, vpk9, clk9, nI_clamp, nI_1, true_and, g14, g16]
  rw [m_i_si, if_neg (by omega), g14, nI_1]
  have F3 : FrS (fun a j => (a = 230 ∧ j = R.length) ∨ (a = 206 ∧ j = 14)) M2 (m_si (m_si M2 230 R.length (nI (eL r.2.2).length)) 206 14 (nI (R.length + 1))) := (FrS.si (P := fun a j => (a = 230 ∧ j = R.length) ∨ (a = 206 ∧ j = 14)) (Or.inl ⟨rfl, rfl⟩) _).tr (FrS.si (Or.inr ⟨rfl, rfl⟩) _)
  have v3 : m_i (m_si (m_si M2 230 R.length (nI (eL r.2.2).length)) 206 14 (nI (R.length + 1))) 230 R.length = nI (eL r.2.2).length := by rw [m_i_si, if_neg (by omega), m_i_si, if_pos ⟨rfl, rfl⟩]
  have v14 : m_i (m_si (m_si M2 230 R.length (nI (eL r.2.2).length)) 206 14 (nI (R.length + 1))) 206 14 = nI (R.length + 1) := by rw [m_i_si, if_pos ⟨rfl, rfl⟩]
  generalize m_si (m_si M2 230 R.length (nI (eL r.2.2).length)) 206 14 (nI (R.length + 1)) = M3 at F3 v3 v14 ⊢
  have F23 : FrS (fun a j => ((a = 226 ∨ a = 228 ∨ a = 230) ∧ j = R.length) ∨ (a = 206 ∧ j = 14)) M1 M3 := (F2.mono (fun a j k => by omega)).tr (F3.mono (fun a j k => by omega))
  have hA3 : RA M3 n tp q := hA.fr F23 (by omega) (fun j => by omega) (by omega) (by rw [F23.1 _ _ (by omega)]; exact hA.2.1) hA.2.2.1
  have F13 : FrS XMr M M3 := F1.tr (F23.mono (fun a j k => by unfold XMr; omega))
  have hR3 : RLs M3 (R ++ [r]) := by
    refine ⟨by rw [List.length_append, List.length_singleton]; exact v14, by rw [List.length_append, List.length_singleton]; omega, fun i hi => ?_⟩
    rw [List.length_append, List.length_singleton] at hi
    by_cases z : i = R.length
    · subst z
      rw [getD_e]
      exact ⟨by rw [F3.1 _ _ (by omega)]; exact v1, by rw [F3.1 _ _ (by omega)]; exact v2, v3, hl, fun j hj => by rw [F23.1 _ _ (by omega)]; exact hc j hj⟩
    · rw [getD_l (by omega)]
      exact (hR i (by omega)).fr F23 (by omega) (by omega) (by omega) (fun j => by omega)
  have g8 : m_i M3 206 8 = 0 := by rw [F23.1 _ _ (by omega)]; exact h8
  refine bRe_rule_181 _ _ _ _ ⟨hA3.1.1.c, CallVC.cps0 (by omega) (ct_sign M3 hA3 (c := 59) (by unfold sgn; omega) (by omega) (fun e M4 F4 hA4 => bRe_rule_187 _ _ _ _ ?_) (fun e M4 F4 hF4 => bRe_rule_187 _ _ _ _ ?_))⟩
  · unfold enR at hT
    rw [if_pos rfl, if_pos e] at hT
    subst hT
    refine h.1 rfl M4 _ (F13.tr (F4.mono X4_Mr)) hA4 rfl ⟨by rw [X4_5 F4 (by omega)]; exact hR3.1, hR3.2.1, fun i hi => (hR3.2.2 i hi).fr F4 (by unfold X4; omega) (by unfold X4; omega) (by unfold X4; omega) (fun j => by unfold X4; omega)⟩ (by rw [X4_5 F4 (by omega)]; exact g8)
  · unfold enR at hT
    rw [if_pos rfl, if_neg e] at hT
    subst hT
    exact h.2 (by show ¬ 1 = 0; omega) M4 _ ((F13.mono XMr_q).tr (F4.mono X46_Mq)) hF4
/-- after a fault -/
theorem ru_endF (M M1 : Mm) {n : Nat} {tp : Nat → Nat} {R : List RU} {fc fp q k : Nat} (T : RLt) (x1 x2 : Int32) (F1 : FrS XMq M M1) (hF : RFc M1 n tp fc fp q R.length k) (e1 : T.1 = fc) (e2 : T.2.1 = fp) (hd : 2 < d) (h : RuPost M n tp R T Φ) : Ev l G d mRe_rule 138 [.ref 206, .int x1, .int x2] [] M1 bc bs Φ := by
  obtain ⟨hF, h14, hr, h16⟩ := hF
  have hS := hF.1.1
  refine bRe_rule_138 _ _ _ _ ?_
  simp (disch := omega) only [hS.c, hS.r_fed, hS.s_fed, hS.r_rKind, hS.s_rKind, hS.r_kind, hS.s_kind, hS.r_rNum, hS.s_rNum, hS.r_num, hS.s_num, hS.r_rLong, hS.s_rLong, hS.r_cLong, hS.s_cLong, hS.r_stack, hS.s_stack, hS.r_names, hS.s_names, hS.r_row, hS.s_row, hS.r_ruleOf, hS.s_ruleOf, hS.r_ways, hS.s_ways, hS.r_cWho, hS.s_cWho, hS.r_cMin, hS.s_cMin, hS.r_cOff, hS.s_cOff, hS.r_cTh, hS.s_cTh, hS.r_cEnd, hS.s_cEnd, hS.r_hds, hS.s_hds, hS.r_ends, hS.s_ends, hS.r_there, hS.s_there, hS.r_offd, hS.s_offd, hS.r_had, hS.s_had, hS.r_rPer, hS.s_rPer, hS.r_rP, hS.s_rP, hS.r_per, hS.s_per, hS.r_pr, hS.s_pr, hS.r_rCode, hS.s_rCode, hS.r_rC, hS.s_rC, hS.r_code, hS.s_code, hS.r_cd, hS.s_cd, hS.r_kept, hS.s_kept, hS.r_kp, hS.s_kp, hS.r_holder, hS.s_holder, hS.r_hd, hS.s_hd, hS.r_pass, hS.s_pass, hS.r_ps, hS.s_ps, hS.r_debt, hS.s_debt, hS.r_db, hS.s_db, hS.r_endBy, hS.s_endBy, hS.r_eb, hS.s_eb, vpT, vpk0, clk0, vpk1, clk1, vpk2, clk2, vpk3, clk3, vpk4, clk4, vpk5, clk5, vpk6, clk6, vpk7, clk7, vpk8, clk8, vpk9, clk9, nI_clamp, nI_1, true_and, h14]
  rw [m_i_si, if_neg (by omega), h14]
  simp (disch := omega) only [hS.c, hS.r_fed, hS.s_fed, hS.r_rKind, hS.s_rKind, hS.r_kind, hS.s_kind, hS.r_rNum, hS.s_rNum, hS.r_num, hS.s_num, hS.r_rLong, hS.s_rLong, hS.r_cLong, hS.s_cLong, hS.r_stack, hS.s_stack, hS.r_names, hS.s_names, hS.r_row, hS.s_row, hS.r_ruleOf, hS.s_ruleOf, hS.r_ways, hS.s_ways, hS.r_cWho, hS.s_cWho, hS.r_cMin, hS.s_cMin, hS.r_cOff, hS.s_cOff, hS.r_cTh, hS.s_cTh, hS.r_cEnd, hS.s_cEnd, hS.r_hds, hS.s_hds, hS.r_ends, hS.s_ends, hS.r_there, hS.s_there, hS.r_offd, hS.s_offd, hS.r_had, hS.s_had, hS.r_rPer, hS.s_rPer, hS.r_rP, hS.s_rP, hS.r_per, hS.s_per, hS.r_pr, hS.s_pr, hS.r_rCode, hS.s_rCode, hS.r_rC, hS.s_rC, hS.r_code, hS.s_code, hS.r_cd, hS.s_cd, hS.r_kept, hS.s_kept, hS.r_kp, hS.s_kp, hS.r_holder, hS.s_holder, hS.r_hd, hS.s_hd, hS.r_pass, hS.s_pass, hS.r_ps, hS.s_ps, hS.r_debt, hS.s_debt, hS.r_db, hS.s_db, hS.r_endBy, hS.s_endBy, hS.r_eb, hS.s_eb, vpT, vpk0, clk0, vpk1, clk1, vpk2, clk2, vpk3, clk3, vpk4, clk4, vpk5, clk5, vpk6, clk6, vpk7, clk7, vpk8, clk8, vpk9, clk9, nI_clamp, nI_1, true_and, h14]
  have F2 : FrS (fun a j => (a = 226 ∨ a = 228) ∧ j = R.length) M1 (m_si (m_si M1 226 R.length x1) 228 R.length x2) := (FrS.si (P := fun a j => (a = 226 ∨ a = 228) ∧ j = R.length) ⟨Or.inl rfl, rfl⟩ _).tr (FrS.si ⟨Or.inr rfl, rfl⟩ _)
  generalize m_si (m_si M1 226 R.length x1) 228 R.length x2 = M2 at F2 ⊢
  have hS2 := hS.fr F2
  have g14 : m_i M2 206 14 = nI R.length := by rw [F2.1 _ _ (by omega)]; exact h14
  refine bRe_rule_158 _ _ _ _ ?_
  simp (disch := omega) only [hS2.c, hS2.r_fed, hS2.s_fed, hS2.r_rKind, hS2.s_rKind, hS2.r_kind, hS2.s_kind, hS2.r_rNum, hS2.s_rNum, hS2.r_num, hS2.s_num, hS2.r_rLong, hS2.s_rLong, hS2.r_cLong, hS2.s_cLong, hS2.r_stack, hS2.s_stack, hS2.r_names, hS2.s_names, hS2.r_row, hS2.s_row, hS2.r_ruleOf, hS2.s_ruleOf, hS2.r_ways, hS2.s_ways, hS2.r_cWho, hS2.s_cWho, hS2.r_cMin, hS2.s_cMin, hS2.r_cOff, hS2.s_cOff, hS2.r_cTh, hS2.s_cTh, hS2.r_cEnd, hS2.s_cEnd, hS2.r_hds, hS2.s_hds, hS2.r_ends, hS2.s_ends, hS2.r_there, hS2.s_there, hS2.r_offd, hS2.s_offd, hS2.r_had, hS2.s_had, hS2.r_rPer, hS2.s_rPer, hS2.r_rP, hS2.s_rP, hS2.r_per, hS2.s_per, hS2.r_pr, hS2.s_pr, hS2.r_rCode, hS2.s_rCode, hS2.r_rC, hS2.s_rC, hS2.r_code, hS2.s_code, hS2.r_cd, hS2.s_cd, hS2.r_kept, hS2.s_kept, hS2.r_kp, hS2.s_kp, hS2.r_holder, hS2.s_holder, hS2.r_hd, hS2.s_hd, hS2.r_pass, hS2.s_pass, hS2.r_ps, hS2.s_ps, hS2.r_debt, hS2.s_debt, hS2.r_db, hS2.s_db, hS2.r_endBy, hS2.s_endBy, hS2.r_eb, hS2.s_eb, vpT, vpk0, clk0, vpk1, clk1, vpk2, clk2, vpk3, clk3, vpk4, clk4, vpk5, clk5, vpk6, clk6, vpk7, clk7, vpk8, clk8, vpk9, clk9, nI_clamp, nI_1, true_and, g14]
  rw [m_i_si, if_neg (by omega), g14, nI_1]
  have F3 : FrS (fun a j => (a = 230 ∧ j = R.length) ∨ (a = 206 ∧ j = 14)) M2 (m_si (m_si M2 230 R.length (m_i M2 206 16)) 206 14 (nI (R.length + 1))) := (FrS.si (P := fun a j => (a = 230 ∧ j = R.length) ∨ (a = 206 ∧ j = 14)) (Or.inl ⟨rfl, rfl⟩) _).tr (FrS.si (Or.inr ⟨rfl, rfl⟩) _)
  generalize m_si (m_si M2 230 R.length (m_i M2 206 16)) 206 14 (nI (R.length + 1)) = M3 at F3 ⊢
  have F23 : FrS (fun a j => ((a = 226 ∨ a = 228 ∨ a = 230) ∧ j = R.length) ∨ (a = 206 ∧ j = 14)) M1 M3 := (F2.mono (fun a j k => by omega)).tr (F3.mono (fun a j k => by omega))
  have hF3 : RFt M3 n tp fc fp q := hF.fr F23 (by omega) (fun j => by omega) (by omega) (by omega) (by rw [F23.1 _ _ (by omega)]; exact hF.2.2.2.2.1) hF.2.2.2.2.2
  have F13 : FrS XMq M M3 := F1.tr (F23.mono (fun a j k => by unfold XMq; omega))
  refine bRe_rule_181 _ _ _ _ ⟨hF3.1.1.c, CallVC.cps0 (by omega) (ct_signF M3 hF3 _ (bRe_rule_187 _ _ _ _ (h.2 (by rw [e1]; have := hF.2.2.1; omega) M3 q F13 (by rw [e1, e2]; exact hF3))))⟩
/-- a RULE with a number -/
theorem ru_num (M M1 : Mm) {n : Nat} {tp : Nat → Nat} {R : List RU} {q w : Nat} (T : RLt) (x1 x2 y1 : Int32) (hw : ¬ w = 13 ∧ ¬ w = 12) (hx1 : x1 = nI (kdN w - 2)) (hy1 : y1 = nI (loW w)) (hlo : loW w ≤ 1) (hx2 : x2.toInt = (hiW w : Int) - 1) (hhi : hiW w ≤ 10000) (F1 : FrS XMr M M1) (hC : RCs M1 n tp q 0 R.length []) (hR : ∀ i, i < R.length → RL1 M1 i (R.getD i ru0)) (hT : T = enR n tp (rbS n tp w (rn n tp isb q))) (hd : 2 < d) (h : RuPost M n tp R T Φ) : CallVC l G d mRe_rule 137 [.ref 206, .int x1, .int 0] [] mRe_numberHere [.ref 206, .int y1, .int x2, .int (-1)] M1 bc bs Φ := by
  unfold rbS at hT
  rw [if_neg hw.1, if_neg hw.2] at hT
  have hr := hC.2.2.2.1
  refine CallVC.cps0 (by omega) (ct_numW M1 hC.1 (loW w) (hiW w) y1 x2 hy1 hlo hx2 hhi (by omega) (fun ok M2 F2 hA2 => bRe_rule_137 _ _ _ _ _ ?_) (fun no M2 F2 hF2 => bRe_rule_137 _ _ _ _ _ ?_))
  · rw [if_pos ok] at hT
    exact ru_end M M2 (r := (kdN w, cvl n tp (rn n tp isb q), [])) T _ _ hx1 rfl (F1.tr (F2.mono X4_Mr)) (hC.x4 F2 hA2) (Nat.zero_le _) (fun i hi => (hR i hi).fr F2 (by unfold X4; omega) (by unfold X4; omega) (by unfold X4; omega) (fun j => by unfold X4; omega)) hT hd h
  · rw [if_neg no] at hT
    have hc : T.1 = fcd n tp (rn n tp isb q) ∧ T.2.1 = rn n tp isb q := by
      rw [hT]
      unfold enR
      rw [if_neg (fcd_ne _ _ _)]
      exact ⟨rfl, rfl⟩
    exact ru_endF M M2 T _ _ ((F1.mono XMr_q).tr (F2.mono X46_Mq)) (hC.f46 F2 hF2) hc.1 hc.2 hd h
/-- a RULE with a formula -/
theorem ru_cod (M M1 : Mm) {n : Nat} {tp : Nat → Nat} {R : List RU} {q w b dd pc : Nat} {y : MR} {f : Nat → Pr} (T : RLt) (x1 : Int32) (hx1 : x1 = nI (kdN w - 2)) (F1 : FrS XMr M M1) (hf : RRD n tp y f b 0 dd) (hdd : dd + 1 < d) (hdd2 : 2 < d) (hpc : ∀ M2, Ev l G d mRe_rule 138 [.ref 206, .int x1, .int 0] [] M2 bc bs Φ → Ev l G d mRe_rule pc [.ref 206, .int x1, .int 0] [] M2 bc bs Φ) (hC : RCs M1 n tp q 0 R.length []) (hR : ∀ i, i < R.length → RL1 M1 i (R.getD i ru0)) (hT : T = enR n tp (codP w (f (rn n tp isb q)))) (h : RuPost M n tp R T Φ) : CallVC l G d mRe_rule pc [.ref 206, .int x1, .int 0] [] y [.ref 206] M1 bc bs Φ := by
  have hr := hC.2.2.2.1
  have hn := hC.1.1.2.2.1
  refine CallVC.cps0 (by omega) (hf _ _ _ _ _ _ M1 q R.length [] (by omega) hC (by show 2 * 0 ≤ _; omega) ⟨fun e M2 q2 F2 hC2 hq2 hb2 => hpc M2 ?_, fun e M2 q2 k2 F2 hF2 hb2 hq2 => hpc M2 ?_⟩)
  · have hq2n := hC2.1.2.2.1
    rw [List.nil_append] at hC2 hb2
    have hb2' : 2 * (eL (f (rn n tp isb q)).2.2).length + 3 * q ≤ 3 * q2 + 2 * 0 + 1 := hb2
    refine ru_end M M2 (r := (kdN w, 0, (f (rn n tp isb q)).2.2)) T _ _ hx1 rfl (F1.tr (F2.mono (XRs_Mr hr))) hC2 (by show (eL (f (rn n tp isb q)).2.2).length ≤ 800; omega) (fun i hi => (hR i hi).fr F2 (by unfold XRs; omega) (by unfold XRs; omega) (by unfold XRs; omega) (fun j => by unfold XRs; omega)) ?_ hdd2 h
    rw [hT, hq2]
    unfold codP
    rw [e]
  · refine ru_endF M M2 T _ _ ((F1.mono XMr_q).tr (F2.mono (XRf_Mq hr))) hF2 ?_ ?_ hdd2 h
    · rw [hT]
      unfold enR codP
      rw [if_neg e]
    · rw [hT]
      unfold enR codP
      rw [if_neg e]
theorem ru_52 (M M2 : Mm) {n : Nat} {tp : Nat → Nat} {R : List RU} {q w : Nat} (u : Value) (T : RLt) (hw : 6 ≤ w ∧ w ≤ 13) (hS2 : RS M2) (g1 : FrS XMr M (m_si M2 206 16 0)) (g2 : RCs (m_si M2 206 16 0) n tp q 0 R.length []) (g3 : ∀ i, i < R.length → RL1 (m_si M2 206 16 0) i (R.getD i ru0)) (hT : T = enR n tp (rbS n tp w (rn n tp isb q))) (hd : 31 < d) (h : RuPost M n tp R T Φ) : Ev l G d mRe_rule 52 [.ref 206, .int (rkF w), u] [] M2 bc bs Φ := by
  have cs : w = 6 ∨ w = 7 ∨ w = 8 ∨ w = 9 ∨ w = 10 ∨ w = 11 ∨ w = 12 ∨ w = 13 := by omega
  rcases cs with c | c | c | c | c | c | c | c
  · subst c
    have X : CallVC l G d mRe_rule 137 [.ref 206, .int 0, .int 0] [] mRe_numberHere [.ref 206, .int 1, .int 99, .int (-1)] (m_si M2 206 16 0) bc bs Φ := ru_num M _ (w := 6) T 0 99 1 (by decide) (by decide +kernel) (by decide +kernel) (by decide +kernel) (by decide +kernel) (by decide +kernel) g1 g2 g3 hT (by omega) h
    rw [show rkF 6 = 0 by decide]
    refine bRe_rule_52 _ _ _ _ ⟨hS2.c, ?_⟩
    repeat' first | exact X | refine And.intro ?_ ?_ | (intro z; first | exact absurd rfl z | exact absurd z (by decide) | skip)
  · subst c
    have X : CallVC l G d mRe_rule 137 [.ref 206, .int 1, .int 0] [] mRe_numberHere [.ref 206, .int 1, .int 9, .int (-1)] (m_si M2 206 16 0) bc bs Φ := ru_num M _ (w := 7) T 1 9 1 (by decide) (by decide +kernel) (by decide +kernel) (by decide +kernel) (by decide +kernel) (by decide +kernel) g1 g2 g3 hT (by omega) h
    rw [show rkF 7 = 1 by decide]
    refine bRe_rule_52 _ _ _ _ ⟨hS2.c, ?_⟩
    repeat' first | exact X | refine And.intro ?_ ?_ | (intro z; first | exact absurd rfl z | exact absurd z (by decide) | skip)
  · subst c
    have X : CallVC l G d mRe_rule 137 [.ref 206, .int 2, .int 0] [] mRe_numberHere [.ref 206, .int 0, .int 999, .int (-1)] (m_si M2 206 16 0) bc bs Φ := ru_num M _ (w := 8) T 2 999 0 (by decide) (by decide +kernel) (by decide +kernel) (by decide +kernel) (by decide +kernel) (by decide +kernel) g1 g2 g3 hT (by omega) h
    rw [show rkF 8 = 2 by decide]
    refine bRe_rule_52 _ _ _ _ ⟨hS2.c, ?_⟩
    repeat' first | exact X | refine And.intro ?_ ?_ | (intro z; first | exact absurd rfl z | exact absurd z (by decide) | skip)
  · subst c
    have X : CallVC l G d mRe_rule 137 [.ref 206, .int 3, .int 0] [] mRe_numberHere [.ref 206, .int 0, .int 999, .int (-1)] (m_si M2 206 16 0) bc bs Φ := ru_num M _ (w := 9) T 3 999 0 (by decide) (by decide +kernel) (by decide +kernel) (by decide +kernel) (by decide +kernel) (by decide +kernel) g1 g2 g3 hT (by omega) h
    rw [show rkF 9 = 3 by decide]
    refine bRe_rule_52 _ _ _ _ ⟨hS2.c, ?_⟩
    repeat' first | exact X | refine And.intro ?_ ?_ | (intro z; first | exact absurd rfl z | exact absurd z (by decide) | skip)
  · subst c
    have X : CallVC l G d mRe_rule 137 [.ref 206, .int 4, .int 0] [] mRe_numberHere [.ref 206, .int 0, .int 9, .int (-1)] (m_si M2 206 16 0) bc bs Φ := ru_num M _ (w := 10) T 4 9 0 (by decide) (by decide +kernel) (by decide +kernel) (by decide +kernel) (by decide +kernel) (by decide +kernel) g1 g2 g3 hT (by omega) h
    rw [show rkF 10 = 4 by decide]
    refine bRe_rule_52 _ _ _ _ ⟨hS2.c, ?_⟩
    repeat' first | exact X | refine And.intro ?_ ?_ | (intro z; first | exact absurd rfl z | exact absurd z (by decide) | skip)
  · subst c
    have X : CallVC l G d mRe_rule 137 [.ref 206, .int 5, .int 0] [] mRe_numberHere [.ref 206, .int 1, .int 999, .int (-1)] (m_si M2 206 16 0) bc bs Φ := ru_num M _ (w := 11) T 5 999 1 (by decide) (by decide +kernel) (by decide +kernel) (by decide +kernel) (by decide +kernel) (by decide +kernel) g1 g2 g3 hT (by omega) h
    rw [show rkF 11 = 5 by decide]
    refine bRe_rule_52 _ _ _ _ ⟨hS2.c, ?_⟩
    repeat' first | exact X | refine And.intro ?_ ?_ | (intro z; first | exact absurd rfl z | exact absurd z (by decide) | skip)
  · subst c
    have X : CallVC l G d mRe_rule 69 [.ref 206, .int 6, .int 0] [] mRe_sum [.ref 206] (m_si M2 206 16 0) bc bs Φ := ru_cod M _ (w := 12) T 6 (by decide +kernel) g1 (re_sums 6 (by omega)) (by omega) (by omega) (fun M3 hE => bRe_rule_69 _ _ _ _ hE) g2 g3 hT h
    rw [show rkF 12 = 6 by decide]
    refine bRe_rule_52 _ _ _ _ ⟨hS2.c, ?_⟩
    repeat' first | exact X | refine And.intro ?_ ?_ | (intro z; first | exact absurd rfl z | exact absurd z (by decide) | skip)
  · subst c
    have X : CallVC l G d mRe_rule 82 [.ref 206, .int 7, .int 0] [] mRe_ors [.ref 206] (m_si M2 206 16 0) bc bs Φ := ru_cod M _ (w := 13) T 7 (by decide +kernel) g1 (re_ors (by omega) (re_ands (by omega) (re_clms 6 (by omega)))) (by omega) (by omega) (fun M3 hE => bRe_rule_82 _ _ _ _ hE) g2 g3 hT h
    rw [show rkF 13 = 7 by decide]
    refine bRe_rule_52 _ _ _ _ ⟨hS2.c, ?_⟩
    repeat' first | exact X | refine And.intro ?_ ?_ | (intro z; first | exact absurd rfl z | exact absurd z (by decide) | skip)
theorem ct_rule (M : Mm) {n : Nat} {tp : Nat → Nat} {p : Nat} {R : List RU} (hA : RA M n tp p) (hp : rn n tp isb p = p) (hR : RLs M R) (h8 : m_i M 206 8 = 0) (hd : 31 < d) (h : RuPost M n tp R (ruS n tp R.length p) Φ) : Ct l G d mRe_rule bc bs [.ref 206] M Φ := by
  have hR10 := hR.2.1
  refine Ct.of rfl (Nat.le_of_ble_eq_true rfl) (bRe_rule_0 _ _ ⟨hA.1.1.c, CallVC.cps0 (by omega) (ct_ruleHere M hA hp (by omega) (fun M1 F1 hA1 => ?_))⟩)
  have hwr := wd_rng n tp p
  obtain ⟨k1, k0⟩ := rk_of hwr
  have h14 : m_i M1 206 14 = nI R.length := by rw [X4_5 F1 (by omega)]; exact hR.1
  have h81 : m_i M1 206 8 = 0 := by rw [X4_5 F1 (by omega)]; exact h8
  have hR1 : ∀ i, i < R.length → RL1 M1 i (R.getD i ru0) := fun i hi => (hR.2.2 i hi).fr F1 (by unfold X4; omega) (by unfold X4; omega) (by unfold X4; omega) (fun j => by unfold X4; omega)
  unfold ruS at h
  by_cases c : 0 < wM (wd n tp p)
  · obtain ⟨e1, e2⟩ := k1 c
    rw [if_pos c] at h
    have e10 : nI R.length = 10 ↔ 10 ≤ R.length := by rw [show (10 : Int32) = nI 10 from rfl, nI_eq (by omega) (by omega)]; omega
    refine bRe_rule_4 _ _ _ _ _ ⟨fun _ => ⟨hA1.1.1.c, ?_⟩, fun z => absurd z e2⟩
    rw [h14, e10]
    refine ⟨fun z => ?_, fun z => CallVC.cps0 (by omega) ?_⟩
    · rw [if_neg z] at h
      refine bRe_rule_40 _ _ _ _ ⟨hA1.1.1.c, fun _ => CallVC.cps0 (by omega) (ct_skipWord M1 hA1 (by omega) (fun M2 F2 hA2 => ?_)), fun z => absurd hA1.2.2.2 z⟩
      have hw1 : ¬ wd n tp p = 1 := fun t => by rw [t] at c; exact absurd c (by decide +kernel)
      rw [← tk2_te (wd_tk rfl hw1)] at hA2
      have F12 := F1.tr F2
      have h14' : m_i M2 206 14 = nI R.length := by rw [X4_5 F2 (by omega)]; exact h14
      have h82 : m_i M2 206 8 = 0 := by rw [X4_5 F2 (by omega)]; exact h81
      have F3 : FrS (fun a j => a = 206 ∧ j = 16) M2 (m_si M2 206 16 0) := FrS.si (P := fun a j => a = 206 ∧ j = 16) ⟨rfl, rfl⟩ _
      have v16 : m_i (m_si M2 206 16 0) 206 16 = 0 := by rw [m_i_si, if_pos ⟨rfl, rfl⟩]
      have hC3 : ∀ M3, FrS (fun a j => a = 206 ∧ j = 16) M2 M3 → m_i M3 206 16 = 0 → FrS XMr M M3 ∧ RCs M3 n tp (te n tp p) 0 R.length [] ∧ ∀ i, i < R.length → RL1 M3 i (R.getD i ru0) := fun M3 F3 v16 =>
        ⟨(F12.mono X4_Mr).tr (F3.mono (fun a j k => by unfold XMr; omega)), ⟨hA2.fr F3 (by omega) (fun j => by omega) (by omega) (by rw [F3.1 _ _ (by omega)]; exact hA2.2.1) hA2.2.2.1, by rw [F3.1 _ _ (by omega)]; exact h82, by rw [F3.1 _ _ (by omega)]; exact h14', by omega, v16, fun j hj => absurd hj (Nat.not_lt_zero j)⟩, fun i hi => ((hR1 i hi).fr F2 (by unfold X4; omega) (by unfold X4; omega) (by unfold X4; omega) (fun j => by unfold X4; omega)).fr F3 (by omega) (by omega) (by omega) (fun j => by omega)⟩
      obtain ⟨g1, g2, g3⟩ := hC3 _ F3 v16
      have hS2 := hA2.1.1
      have pick : 6 ≤ wd n tp p ∧ wd n tp p ≤ 13 := by
        refine Classical.byContradiction (fun t => ?_)
        have : rkF (wd n tp p) = -1 := by
          unfold rkF
          rw [if_neg (by omega), if_neg (by omega), if_neg (by omega), if_neg (by omega), if_neg (by omega), if_neg (by omega), if_neg (by omega), if_neg (by omega)]
        exact e2 this
      exact ru_52 M M2 _ _ pick hS2 g1 g2 g3 rfl hd h
    · rw [if_pos z] at h
      rw [hA1.2.1]
      exact ct_wrong M1 hA1 3 p (by omega) (fun M2 F2 hF => bRe_rule_40 _ _ _ _ ⟨hF.1.1.c, fun t => absurd t hF.ne, fun _ => h.2 (by show ¬ 3 = 0; omega) M2 _ ((F1.mono (fun a j k => XMr_q a j (X4_Mr a j k))).tr (F2.mono (fun a j k => by unfold XMq; omega))) hF⟩)
  · rw [if_neg c] at h
    rw [k0 c]
    refine bRe_rule_4 _ _ _ _ _ ⟨fun z => absurd rfl z, fun _ => ⟨hA1.1.1.c, CallVC.cps0 (by omega) ?_⟩⟩
    rw [hA1.2.1]
    exact ct_wrong M1 hA1 1 p (by omega) (fun M2 F2 hF => bRe_rule_19 _ _ _ _ (bRe_rule_40 _ _ _ _ ⟨hF.1.1.c, fun t => absurd t hF.ne, fun _ => h.2 (by show ¬ 1 = 0; omega) M2 _ ((F1.mono (fun a j k => XMr_q a j (X4_Mr a j k))).tr (F2.mono (fun a j k => by unfold XMq; omega))) hF⟩))
end RRU
