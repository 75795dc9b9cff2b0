/-! ===== the reference: law ===== -/
theorem cpos_eL (S : List Int32) : ∀ j, j ≤ S.length → cpos S j = (eL (S.take j)).length
  | 0, _ => rfl
  | j + 1, h => by
    have hj : j < S.length := by omega
    have e : stL S j = S[j] := by unfold stL; rw [List.getD_eq_getElem?_getD, List.getElem?_eq_getElem hj]; rfl
    show cpos S j + (if stL S j < 0 then 1 else 2) = _
    rw [cpos_eL S j (by omega), List.take_succ_eq_append_getElem hj, eL_app, List.length_append, ← e]
    by_cases c : stL S j < 0
    · rw [if_pos c, eL_neg c]; rfl
    · rw [if_neg c, eL_num c]; rfl
theorem stL_mid (A B C : List Int32) (k : Nat) (hk : k < B.length) : stL (A ++ B ++ C) (A.length + k) = stL B k := by
  unfold stL
  rw [List.getD_eq_getElem?_getD, List.getD_eq_getElem?_getD, List.append_assoc, List.getElem?_append_right (by omega), Nat.add_sub_cancel_left, List.getElem?_append_left hk]
theorem CDrep_of {M : Mm} {a : Nat} {S : List Int32} (h : ∀ j, j < (eL S).length → m_i M a j = stL (eL S) j) : CDrep M a S ∧ cpos S S.length = (eL S).length := by
  have hl : cpos S S.length = (eL S).length := by rw [cpos_eL S _ (Nat.le_refl _), List.take_length]
  refine ⟨fun j hj => ?_, hl⟩
  have e : stL S j = S[j] := by unfold stL; rw [List.getD_eq_getElem?_getD, List.getElem?_eq_getElem hj]; rfl
  have hc := cpos_eL S j (by omega)
  have hs : S = S.take j ++ [stL S j] ++ S.drop (j + 1) := by
    rw [e, ← List.take_succ_eq_append_getElem hj, List.take_append_drop]
  have hE : eL S = eL (S.take j) ++ eL [stL S j] ++ eL (S.drop (j + 1)) := by
    conv => lhs; rw [hs]
    rw [eL_app, eL_app]
  have hlen : (eL S).length = (eL (S.take j)).length + (eL [stL S j]).length + (eL (S.drop (j + 1))).length := by rw [hE, List.length_append, List.length_append]
  by_cases c : stL S j < 0
  · rw [if_pos c]
    have e1 := eL_neg c
    have l1 : (eL [stL S j]).length = 1 := by rw [e1]; rfl
    rw [h _ (by omega), hE, hc]
    exact (stL_mid (eL (S.take j)) (eL [stL S j]) (eL (S.drop (j + 1))) 0 (by omega)).trans (by rw [e1]; rfl)
  · rw [if_neg c]
    have e1 := eL_num c
    have l1 : (eL [stL S j]).length = 2 := by rw [e1]; rfl
    refine ⟨?_, ?_⟩
    · rw [h _ (by omega), hE, hc]
      exact (stL_mid (eL (S.take j)) (eL [stL S j]) (eL (S.drop (j + 1))) 0 (by omega)).trans (by rw [e1]; rfl)
    · rw [h _ (by omega), hE, hc]
      have := stL_mid (eL (S.take j)) (eL [stL S j]) (eL (S.drop (j + 1))) 1 (by omega)
      rw [this, e1]
      rfl
theorem ruS_lim {n : Nat} {tp : Nat → Nat} {k p : Nat} (h : (ruS n tp k p).1 = 0) : k < 10 := by
  refine Classical.byContradiction (fun z => ?_)
  unfold ruS at h
  split at h
  · rw [if_pos (by omega)] at h
    exact absurd h (by show ¬ 3 = 0; omega)
  · exact absurd h (by show ¬ 1 = 0; omega)
section RLW
variable {l : Launch} {G : Gx} {d : Nat} {bc bs : Nat} {Φ : OutV → Mm → Prop}
/-- RULE by RULE -/
theorem law_loop (M : Mm) {n : Nat} {tp : Nat → Nat} (hd : 32 < d) (x1 : Int32) (u2 u3 : Value) (T : Nat × Nat × List RU)
    (h1 : T.1 = 0 → ∀ M' q, FrS XMr M M' → RA M' n tp q → RLs M' T.2.2 → Ev l G d mRe_law 75 [.ref 206, .int x1, u2, u3] [] M' bc bs Φ)
    (h0 : ¬ T.1 = 0 → ∀ M' q, FrS XMq M M' → RFt M' n tp T.1 T.2.1 q → Ev l G d mRe_law 75 [.ref 206, .int x1, u2, u3] [] M' bc bs Φ) :
    ∀ c p R M1, R.length + c = 11 → R.length ≤ 10 → FrS XMr M M1 → RA M1 n tp p → rn n tp isb p = p → RLs M1 R → m_i M1 206 8 = 0 → rlF n tp c p R = T → Ev l G d mRe_law 46 [.ref 206, .int x1, u2, u3] [] M1 bc bs Φ := by
  intro c
  induction c with
  | zero => intro p R M1 hk hk2; omega
  | succ c ih =>
    intro p R M1 hk hk2 F1 hA hp hR h8 hT
    have hn := hA.1.2.2.1
    have hpn := hA.2.2.1
    rw [rlF_succ] at hT
    have e2 : nI n ≤ nI p ↔ tk n tp p = 0 := by rw [tk_0]; exact nI_leI (by omega) (by omega)
    refine bRe_law_46 _ _ _ _ _ ⟨hA.1.1.c, fun z => absurd hA.2.2.2 z, fun _ => ?_⟩
    rw [hA.1.2.1, hA.2.1, e2]
    refine ⟨fun z => ?_, fun z => ?_⟩
    · rw [if_pos z] at hT
      subst hT
      exact h1 rfl M1 p F1 hA hR
    · rw [if_neg z] at hT
      refine CallVC.cps0 (by omega) (ct_rule M1 hA hp hR h8 (by omega) ⟨fun e M2 q2 F2 hA2 hq hR2 h82 => ?_, fun e M2 q2 F2 hF => ?_⟩)
      · rw [if_pos e] at hT
        have := ruS_lim e
        refine bRe_law_68 _ _ _ _ _ ⟨hA2.1.1.c, CallVC.cps0 (by omega) (ct_blanksA M2 hA2 (by omega) (fun M3 F3 hA3 => bRe_law_72 _ _ _ _ _ ?_))⟩
        rw [hq] at hA3
        have el : (R ++ [(ruS n tp R.length p).2.2]).length = R.length + 1 := by rw [List.length_append]; rfl
        exact ih _ _ M3 (by omega) (by omega) ((F1.tr F2).tr (F3.mono X4_Mr)) hA3 (by rw [← hq]; exact rn_idem _) ⟨by rw [X4_5 F3 (by omega)]; exact hR2.1, hR2.2.1, fun i hi => (hR2.2.2 i hi).fr F3 (by unfold X4; omega) (by unfold X4; omega) (by unfold X4; omega) (fun j => by unfold X4; omega)⟩ (by rw [X4_5 F3 (by omega)]; exact h82) hT
      · rw [if_neg e] at hT
        have hF' : RFt M2 n tp T.1 T.2.1 q2 := by rw [← hT]; exact hF
        have e' : ¬ T.1 = 0 := by rw [← hT]; exact e
        have F12 := (F1.mono XMr_q).tr F2
        refine bRe_law_68 _ _ _ _ _ ⟨hF'.1.1.c, CallVC.cps0 (by omega) ?_⟩
        refine ct_blanksF M2 hF' (by omega) (fun M3 q3 F3 hF3 => bRe_law_72 _ _ _ _ _ (bRe_law_46 _ _ _ _ _ ⟨hF3.1.1.c, fun _ => h0 e' M3 q3 (F12.tr (F3.mono (fun a j k => XMr_q a j (X4_Mr a j k)))) hF3, fun z => absurd z hF3.ne⟩))
/-- one RULE as it stands in force -/
def RK1 (M : Mm) (i : Nat) (r : RU) : Prop := m_i M 227 i = nI (r.1 - 2) ∧ m_i M 229 i = nI r.2.1 ∧ m_i M 231 i = nI (eL r.2.2).length ∧ (eL r.2.2).length ≤ 800 ∧ ∀ j, j < (eL r.2.2).length → m_i M (244 + i) j = stL (eL r.2.2) j
def XCp : Nat → Nat → Prop := fun a _ => a = 227 ∨ a = 229 ∨ a = 231 ∨ (244 ≤ a ∧ a < 244 + 10)
theorem law_copy (M : Mm) (hS : RS M) (R : List RU) (h15 : m_i M 206 15 = nI R.length) (hR10 : R.length ≤ 10) (hR : ∀ i, i < R.length → RL1 M i (R.getD i ru0)) (x1 : Int32) (h : ∀ M', FrS XCp M M' → (∀ i, i < R.length → RK1 M' i (R.getD i ru0)) → Φ (.inl (some (.int (nI R.length)))) M') : ∀ u, Ev l G d mRe_law 108 [.ref 206, .int x1, .int (nI 0), u] [] M bc bs Φ := by
  have outer : ∀ s k M1, k + s = R.length → FrS XCp M M1 → (∀ i, i < k → RK1 M1 i (R.getD i ru0)) → ∀ u, Ev l G d mRe_law 108 [.ref 206, .int x1, .int (nI k), u] [] M1 bc bs Φ := by
    intro s
    induction s with
    | zero =>
      intro k M1 hk F1 hc u
      have hS1 := hS.fr F1
      have g15 : m_i M1 206 15 = nI R.length := by rw [F1.1 _ _ (by unfold XCp; omega)]; exact h15
      refine bRe_law_108 _ _ _ _ _ ⟨hS1.c, ?_⟩
      rw [g15]
      exact ⟨fun _ => h M1 F1 (fun i hi => hc i (by omega)), fun z => absurd (nI_le (a := R.length) (by omega) (by omega)) z⟩
    | succ s ih =>
      intro k M1 hk F1 hc u
      have hS1 := hS.fr F1
      have g15 : m_i M1 206 15 = nI R.length := by rw [F1.1 _ _ (by unfold XCp; omega)]; exact h15
      obtain ⟨r1, r2, r3, r4, r5⟩ := hR k (by omega)
      generalize hr : R.getD k ru0 = r at r1 r2 r3 r4 r5
      have q1 : m_i M1 226 k = nI (r.1 - 2) := by rw [F1.1 _ _ (by unfold XCp; omega)]; exact r1
      have q2 : m_i M1 228 k = nI r.2.1 := by rw [F1.1 _ _ (by unfold XCp; omega)]; exact r2
      refine bRe_law_108 _ _ _ _ _ ⟨hS1.c, ?_⟩
      rw [g15]
      refine ⟨fun z => absurd z (nI_not_le (by omega) (by omega)), fun _ => ?_⟩
      simp (disch := omega) only [hS1.c, hS1.r_fed, hS1.s_fed, hS1.r_rKind, hS1.s_rKind, hS1.r_kind, hS1.s_kind, hS1.r_rNum, hS1.s_rNum, hS1.r_num, hS1.s_num, hS1.r_rLong, hS1.s_rLong, hS1.r_cLong, hS1.s_cLong, hS1.r_stack, hS1.s_stack, hS1.r_names, hS1.s_names, hS1.r_row, hS1.s_row, hS1.r_ruleOf, hS1.s_ruleOf, hS1.r_ways, hS1.s_ways, hS1.r_cWho, hS1.s_cWho, hS1.r_cMin, hS1.s_cMin, hS1.r_cOff, hS1.s_cOff, hS1.r_cTh, hS1.s_cTh, hS1.r_cEnd, hS1.s_cEnd, hS1.r_hds, hS1.s_hds, hS1.r_ends, hS1.s_ends, hS1.r_there, hS1.s_there, hS1.r_offd, hS1.s_offd, hS1.r_had, hS1.s_had, hS1.r_rPer, hS1.s_rPer, hS1.r_rP, hS1.s_rP, hS1.r_per, hS1.s_per, hS1.r_pr, hS1.s_pr, hS1.r_rCode, hS1.s_rCode, hS1.r_rC, hS1.s_rC, hS1.r_code, hS1.s_code, hS1.r_cd, hS1.s_cd, hS1.r_kept, hS1.s_kept, hS1.r_kp, hS1.s_kp, hS1.r_holder, hS1.s_holder, hS1.r_hd, hS1.s_hd, hS1.r_pass, hS1.s_pass, hS1.r_ps, hS1.s_ps, hS1.r_debt, hS1.s_debt, hS1.r_db, hS1.s_db, hS1.r_endBy, hS1.s_endBy, hS1.r_eb, hS1.s_eb, vpT, vpk0, clk0, vpk1, clk1, vpk2, clk2, vpk3, clk3, vpk4, clk4, vpk5, clk5, vpk6, clk6, vpk7, clk7, vpk8, clk8, vpk9, clk9, nI_clamp, nI_1, true_and, q1]
      rw [m_i_si, if_neg (by omega), q2]
      have F2 : FrS (fun a j => (a = 227 ∨ a = 229) ∧ j = k) M1 (m_si (m_si M1 227 k (nI (r.1 - 2))) 229 k (nI r.2.1)) := (FrS.si (P := fun a j => (a = 227 ∨ a = 229) ∧ j = k) ⟨Or.inl rfl, rfl⟩ _).tr (FrS.si ⟨Or.inr rfl, rfl⟩ _)
      have v1 : m_i (m_si (m_si M1 227 k (nI (r.1 - 2))) 229 k (nI r.2.1)) 227 k = nI (r.1 - 2) := by rw [m_i_si, if_neg (by omega), m_i_si, if_pos ⟨rfl, rfl⟩]
      have v2 : m_i (m_si (m_si M1 227 k (nI (r.1 - 2))) 229 k (nI r.2.1)) 229 k = nI r.2.1 := by rw [m_i_si, if_pos ⟨rfl, rfl⟩]
      generalize m_si (m_si M1 227 k (nI (r.1 - 2))) 229 k (nI r.2.1) = M2 at F2 v1 v2 ⊢
      have hS2 := hS1.fr F2
      have q3 : m_i M2 230 k = nI (eL r.2.2).length := by rw [F2.1 _ _ (by omega), F1.1 _ _ (by unfold XCp; omega)]; exact r3
      refine bRe_law_140 _ _ _ _ _ ?_
      simp (disch := omega) only [hS2.c, hS2.r_fed, hS2.s_fed, hS2.r_rKind, hS2.s_rKind, hS2.r_kind, hS2.s_kind, hS2.r_rNum, hS2.s_rNum, hS2.r_num, hS2.s_num, hS2.r_rLong, hS2.s_rLong, hS2.r_cLong, hS2.s_cLong, hS2.r_stack, hS2.s_stack, hS2.r_names, hS2.s_names, hS2.r_row, hS2.s_row, hS2.r_ruleOf, hS2.s_ruleOf, hS2.r_ways, hS2.s_ways, hS2.r_cWho, hS2.s_cWho, hS2.r_cMin, hS2.s_cMin, hS2.r_cOff, hS2.s_cOff, hS2.r_cTh, hS2.s_cTh, hS2.r_cEnd, hS2.s_cEnd, hS2.r_hds, hS2.s_hds, hS2.r_ends, hS2.s_ends, hS2.r_there, hS2.s_there, hS2.r_offd, hS2.s_offd, hS2.r_had, hS2.s_had, hS2.r_rPer, hS2.s_rPer, hS2.r_rP, hS2.s_rP, hS2.r_per, hS2.s_per, hS2.r_pr, hS2.s_pr, hS2.r_rCode, hS2.s_rCode, hS2.r_rC, hS2.s_rC, hS2.r_code, hS2.s_code, hS2.r_cd, hS2.s_cd, hS2.r_kept, hS2.s_kept, hS2.r_kp, hS2.s_kp, hS2.r_holder, hS2.s_holder, hS2.r_hd, hS2.s_hd, hS2.r_pass, hS2.s_pass, hS2.r_ps, hS2.s_ps, hS2.r_debt, hS2.s_debt, hS2.r_db, hS2.s_db, hS2.r_endBy, hS2.s_endBy, hS2.r_eb, hS2.s_eb, vpT, vpk0, clk0, vpk1, clk1, vpk2, clk2, vpk3, clk3, vpk4, clk4, vpk5, clk5, vpk6, clk6, vpk7, clk7, vpk8, clk8, vpk9, clk9, nI_clamp, nI_1, true_and, q3]
      have F3 : FrS (fun a j => a = 231 ∧ j = k) M2 (m_si M2 231 k (nI (eL r.2.2).length)) := FrS.si (P := fun a j => a = 231 ∧ j = k) ⟨rfl, rfl⟩ _
      have v3 : m_i (m_si M2 231 k (nI (eL r.2.2).length)) 231 k = nI (eL r.2.2).length := by rw [m_i_si, if_pos ⟨rfl, rfl⟩]
      generalize m_si M2 231 k (nI (eL r.2.2).length) = M3 at F3 v3 ⊢
      have F13 : FrS (fun a j => (a = 227 ∨ a = 229 ∨ a = 231) ∧ j = k) M1 M3 := (F2.mono (fun a j t => by omega)).tr (F3.mono (fun a j t => by omega))
      have inner : ∀ e i M4, i + e = (eL r.2.2).length → FrS (fun a _ => a = 244 + k) M3 M4 → (∀ j, j < i → m_i M4 (244 + k) j = stL (eL r.2.2) j) → Ev l G d mRe_law 154 [.ref 206, .int x1, .int (nI k), .int (nI i)] [] M4 bc bs Φ := by
        intro e
        induction e with
        | zero =>
          intro i M4 hi F4 hj
          have F14 : FrS (fun a j => ((a = 227 ∨ a = 229 ∨ a = 231) ∧ j = k) ∨ a = 244 + k) M1 M4 := (F13.mono (fun a j t => Or.inl t)).tr (F4.mono (fun a j t => Or.inr t))
          have hS4 := hS1.fr F14
          have g22 : m_i M4 231 k = nI (eL r.2.2).length := by rw [F4.1 _ _ (by omega)]; exact v3
          refine bRe_law_154 _ _ _ _ _ ?_
          simp (disch := omega) only [hS4.c, hS4.r_fed, hS4.s_fed, hS4.r_rKind, hS4.s_rKind, hS4.r_kind, hS4.s_kind, hS4.r_rNum, hS4.s_rNum, hS4.r_num, hS4.s_num, hS4.r_rLong, hS4.s_rLong, hS4.r_cLong, hS4.s_cLong, hS4.r_stack, hS4.s_stack, hS4.r_names, hS4.s_names, hS4.r_row, hS4.s_row, hS4.r_ruleOf, hS4.s_ruleOf, hS4.r_ways, hS4.s_ways, hS4.r_cWho, hS4.s_cWho, hS4.r_cMin, hS4.s_cMin, hS4.r_cOff, hS4.s_cOff, hS4.r_cTh, hS4.s_cTh, hS4.r_cEnd, hS4.s_cEnd, hS4.r_hds, hS4.s_hds, hS4.r_ends, hS4.s_ends, hS4.r_there, hS4.s_there, hS4.r_offd, hS4.s_offd, hS4.r_had, hS4.s_had, hS4.r_rPer, hS4.s_rPer, hS4.r_rP, hS4.s_rP, hS4.r_per, hS4.s_per, hS4.r_pr, hS4.s_pr, hS4.r_rCode, hS4.s_rCode, hS4.r_rC, hS4.s_rC, hS4.r_code, hS4.s_code, hS4.r_cd, hS4.s_cd, hS4.r_kept, hS4.s_kept, hS4.r_kp, hS4.s_kp, hS4.r_holder, hS4.s_holder, hS4.r_hd, hS4.s_hd, hS4.r_pass, hS4.s_pass, hS4.r_ps, hS4.s_ps, hS4.r_debt, hS4.s_debt, hS4.r_db, hS4.s_db, hS4.r_endBy, hS4.s_endBy, hS4.r_eb, hS4.s_eb, vpT, vpk0, clk0, vpk1, clk1, vpk2, clk2, vpk3, clk3, vpk4, clk4, vpk5, clk5, vpk6, clk6, vpk7, clk7, vpk8, clk8, vpk9, clk9, nI_clamp, nI_1, true_and, g22]
          refine ⟨fun _ => ?_, fun z => absurd (nI_le (a := (eL r.2.2).length) (by omega) (by omega)) z⟩
          refine ih (k + 1) M4 (by omega) (F1.tr (F14.mono (fun a j t => by unfold XCp; omega))) (fun i' hi' => ?_) _
          by_cases z : i' = k
          · subst z
            rw [hr]
            exact ⟨by rw [F4.1 _ _ (by omega), F3.1 _ _ (by omega)]; exact v1, by rw [F4.1 _ _ (by omega), F3.1 _ _ (by omega)]; exact v2, g22, r4, fun j hj' => hj j (by omega)⟩
          · obtain ⟨t1, t2, t3, t4, t5⟩ := hc i' (by omega)
            exact ⟨by rw [F14.1 _ _ (by omega)]; exact t1, by rw [F14.1 _ _ (by omega)]; exact t2, by rw [F14.1 _ _ (by omega)]; exact t3, t4, fun j hj' => by rw [F14.1 _ _ (by omega)]; exact t5 j hj'⟩
        | succ e ih2 =>
          intro i M4 hi F4 hj
          have F14 : FrS (fun a j => ((a = 227 ∨ a = 229 ∨ a = 231) ∧ j = k) ∨ a = 244 + k) M1 M4 := (F13.mono (fun a j t => Or.inl t)).tr (F4.mono (fun a j t => Or.inr t))
          have hS4 := hS1.fr F14
          have g22 : m_i M4 231 k = nI (eL r.2.2).length := by rw [F4.1 _ _ (by omega)]; exact v3
          have gc : m_i M4 (233 + k) i = stL (eL r.2.2) i := by rw [F14.1 _ _ (by omega), F1.1 _ _ (by unfold XCp; omega)]; exact r5 i (by omega)
          refine bRe_law_154 _ _ _ _ _ ?_
          simp (disch := omega) only [hS4.c, hS4.r_fed, hS4.s_fed, hS4.r_rKind, hS4.s_rKind, hS4.r_kind, hS4.s_kind, hS4.r_rNum, hS4.s_rNum, hS4.r_num, hS4.s_num, hS4.r_rLong, hS4.s_rLong, hS4.r_cLong, hS4.s_cLong, hS4.r_stack, hS4.s_stack, hS4.r_names, hS4.s_names, hS4.r_row, hS4.s_row, hS4.r_ruleOf, hS4.s_ruleOf, hS4.r_ways, hS4.s_ways, hS4.r_cWho, hS4.s_cWho, hS4.r_cMin, hS4.s_cMin, hS4.r_cOff, hS4.s_cOff, hS4.r_cTh, hS4.s_cTh, hS4.r_cEnd, hS4.s_cEnd, hS4.r_hds, hS4.s_hds, hS4.r_ends, hS4.s_ends, hS4.r_there, hS4.s_there, hS4.r_offd, hS4.s_offd, hS4.r_had, hS4.s_had, hS4.r_rPer, hS4.s_rPer, hS4.r_rP, hS4.s_rP, hS4.r_per, hS4.s_per, hS4.r_pr, hS4.s_pr, hS4.r_rCode, hS4.s_rCode, hS4.r_rC, hS4.s_rC, hS4.r_code, hS4.s_code, hS4.r_cd, hS4.s_cd, hS4.r_kept, hS4.s_kept, hS4.r_kp, hS4.s_kp, hS4.r_holder, hS4.s_holder, hS4.r_hd, hS4.s_hd, hS4.r_pass, hS4.s_pass, hS4.r_ps, hS4.s_ps, hS4.r_debt, hS4.s_debt, hS4.r_db, hS4.s_db, hS4.r_endBy, hS4.s_endBy, hS4.r_eb, hS4.s_eb, vpT, vpk0, clk0, vpk1, clk1, vpk2, clk2, vpk3, clk3, vpk4, clk4, vpk5, clk5, vpk6, clk6, vpk7, clk7, vpk8, clk8, vpk9, clk9, nI_clamp, nI_1, true_and, g22, gc]
          refine ⟨fun z => absurd z (nI_not_le (by omega) (by omega)), fun _ => ?_⟩
          have F5 : FrS (fun a j => a = 244 + k ∧ j = i) M4 (m_si M4 (244 + k) i (stL (eL r.2.2) i)) := FrS.si (P := fun a j => a = 244 + k ∧ j = i) ⟨rfl, rfl⟩ _
          refine ih2 (i + 1) _ (by omega) (F4.tr (F5.mono (fun a j t => t.1))) (fun j hj' => ?_)
          rw [m_i_si]
          by_cases z : j = i
          · rw [if_pos ⟨rfl, z⟩, z]
          · rw [if_neg (fun t => z t.2)]; exact hj j (by omega)
      exact inner (eL r.2.2).length 0 M3 (by omega) (FrS.rf _ _) (fun j hj => absurd hj (by omega))
  exact outer R.length 0 M (by omega) (FrS.rf _ _) (fun i hi => absurd hi (by omega))
end RLW
