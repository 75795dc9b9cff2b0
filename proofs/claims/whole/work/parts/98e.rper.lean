/-! ===== the reference reads a PERSON ===== -/
def XP : Nat → Nat → Prop := fun a j => (a = 206 ∧ (j = 4 ∨ j = 5 ∨ j = 6 ∨ j = 7 ∨ j = 10)) ∨ (209 ≤ a ∧ a < 209 + 8)
def XPs : Nat → Nat → Prop := fun a j => (a = 206 ∧ (j = 4 ∨ j = 7 ∨ j = 10)) ∨ (209 ≤ a ∧ a < 209 + 8)
theorem XPs_P : ∀ a j, XPs a j → XP a j := fun a j h => by unfold XPs at h; unfold XP; omega
theorem X4_Ps : ∀ a j, X4 a j → XPs a j := fun a j h => by unfold X4 at h; unfold XPs; omega
theorem X46_P : ∀ a j, X46 a j → XP a j := fun a j h => by unfold X46 at h; unfold XP; omega
theorem X4_P : ∀ a j, X4 a j → XP a j := fun a j h => by unfold X4 at h; unfold XP; omega
/-- the PERSONS read so far -/
def RPp (M : Mm) (np : Nat) (F : Nat → Nat → Nat) : Prop := m_i M 206 10 = nI np ∧ np ≤ 8 ∧ (∀ p w, p < np → w < 8 → m_i M (209 + p) w = nI (F p w)) ∧ ∀ p, p < np → F p 7 < 256
theorem RPp.fr {M M' : Mm} {np : Nat} {F : Nat → Nat → Nat} {X : Nat → Nat → Prop} (h : RPp M np F) (hF : FrS X M M') (h0 : ¬ X 206 10) (h1 : ∀ p j, p < 8 → ¬ X (209 + p) j) : RPp M' np F := by
  obtain ⟨a, b, c, e⟩ := h
  exact ⟨by rw [hF.1 _ _ h0]; exact a, b, fun p w hp hw => by rw [hF.1 _ _ (h1 p w (by omega))]; exact c p w hp hw, e⟩
theorem RPp.x4 {M M' : Mm} {np : Nat} {F : Nat → Nat → Nat} (h : RPp M np F) (hF : FrS X4 M M') : RPp M' np F := h.fr hF (by unfold X4; omega) (fun p j hp => by unfold X4; omega)
/-- a PERSON of whom w facts are read -/
def RPd (M M1 : Mm) (n : Nat) (tp : Nat → Nat) (np p0 : Nat) (F : Nat → Nat → Nat) (w q1 : Nat) (f : Nat → Nat) : Prop :=
  FrS XPs M M1 ∧ RA M1 n tp q1 ∧ RPp M1 np F ∧ (∀ j, j < w → m_i M1 (209 + np) j = nI (f j)) ∧ psF n tp (5 - w) w (rn n tp isb q1) f = psF n tp 5 0 p0 (F np) ∧ m_i M1 206 7 = m_i M 206 7
theorem RPd.step {M M1 M2 : Mm} {n : Nat} {tp : Nat → Nat} {np p0 : Nat} {F : Nat → Nat → Nat} {w q1 : Nat} {f : Nat → Nat} (h : RPd M M1 n tp np p0 F w q1 f) (hw : w < 5) (hnp : np < 8) (ok : nOK n tp (loN w) (hiN w) (rn n tp isb q1)) (F2 : FrS X4 M1 M2) (hA2 : RA M2 n tp (te n tp (rn n tp isb q1))) : RPd M (m_si M2 (209 + np) w (nI (cvl n tp (rn n tp isb q1)))) n tp np p0 F (w + 1) (te n tp (rn n tp isb q1)) (upN f w (cvl n tp (rn n tp isb q1))) := by
  obtain ⟨a1, a2, a3, a4, a5, a6⟩ := h
  have F3 : FrS (fun a _ => a = 209 + np) M2 (m_si M2 (209 + np) w (nI (cvl n tp (rn n tp isb q1)))) := FrS.si (P := fun a _ => a = 209 + np) rfl _
  have a3' := a3.x4 F2
  refine ⟨(a1.tr (F2.mono X4_Ps)).tr (F3.mono (fun a j k => by unfold XPs; omega)), hA2.fr F3 (by omega) (fun j => by omega) (by omega) (by rw [F3.1 _ _ (by omega)]; exact hA2.2.1) hA2.2.2.1, ⟨by rw [F3.1 _ _ (by omega)]; exact a3'.1, a3'.2.1, fun p v hp hv => by rw [F3.1 _ _ (by omega)]; exact a3'.2.2.1 p v hp hv, a3'.2.2.2⟩, fun j hj => ?_, ?_, ?_⟩
  · rw [m_i_si]
    unfold upN
    by_cases z : j = w
    · rw [if_pos ⟨rfl, z⟩, if_pos z]
    · rw [if_neg (fun k => z k.2), if_neg z, F2.1 _ _ (by unfold X4; omega)]
      exact a4 j (by omega)
  · rw [← a5, show 5 - w = (5 - (w + 1)) + 1 by omega]
    show _ = (if nOK n tp (loN w) (hiN w) (rn n tp isb q1) then psF n tp (5 - (w + 1)) (w + 1) (nx n tp (rn n tp isb q1)) (upN f w (cvl n tp (rn n tp isb q1))) else _)
    rw [if_pos ok]
    rfl
  · rw [F3.1 _ _ (by omega), F2.1 _ _ (by unfold X4; omega)]; exact a6
theorem RPd.bad {M M1 : Mm} {n : Nat} {tp : Nat → Nat} {np p0 : Nat} {F : Nat → Nat → Nat} {w q1 : Nat} {f : Nat → Nat} (h : RPd M M1 n tp np p0 F w q1 f) (hw : w < 5) (no : ¬ nOK n tp (loN w) (hiN w) (rn n tp isb q1)) : (psF n tp 5 0 p0 (F np)).1 = fcd n tp (rn n tp isb q1) ∧ (psF n tp 5 0 p0 (F np)).2.1 = rn n tp isb q1 := by
  obtain ⟨-, -, -, -, a5, -⟩ := h
  rw [← a5, show 5 - w = (5 - (w + 1)) + 1 by omega]
  show (if nOK n tp (loN w) (hiN w) (rn n tp isb q1) then psF n tp (5 - (w + 1)) (w + 1) (nx n tp (rn n tp isb q1)) (upN f w (cvl n tp (rn n tp isb q1))) else (fcd n tp (rn n tp isb q1), rn n tp isb q1, f)).1 = _ ∧ (if nOK n tp (loN w) (hiN w) (rn n tp isb q1) then psF n tp (5 - (w + 1)) (w + 1) (nx n tp (rn n tp isb q1)) (upN f w (cvl n tp (rn n tp isb q1))) else (fcd n tp (rn n tp isb q1), rn n tp isb q1, f)).2.1 = _
  rw [if_neg no]
  exact ⟨rfl, rfl⟩
theorem m1_v : ∀ v, v ≤ 100000 → (nI v = -1 ↔ v = 200000) := fun v hv => ⟨fun z => absurd z (nI_neg (by omega)), fun z => absurd z (by omega)⟩
/-- what reading a PERSON, a CLAUSE leaves behind -/
def RwPost (M : Mm) (n : Nat) (tp : Nat → Nat) (k' : Nat) (r : RR) (Φ : OutV → Mm → Prop) : Prop :=
  (r.1 = 0 → ∀ M' q', FrS XPs M M' → RA M' n tp q' → rn n tp isb q' = r.2.1 → RPp M' r.2.2.1 r.2.2.2 → m_i M' 206 7 = nI k' → Φ (.inl none) M') ∧ (¬ r.1 = 0 → ∀ M' q', FrS XP M M' → RFt M' n tp r.1 r.2.1 q' → Φ (.inl none) M')
section RPE
variable {l : Launch} {G : Gx} {d : Nat} {bc bs : Nat} {Φ : OutV → Mm → Prop}
theorem ct_numW (M : Mm) {n : Nat} {tp : Nat → Nat} {q : Nat} (hA : RA M n tp q) (lo hi : Nat) (x1 x2 : Int32) (e1 : x1 = nI lo) (hlo : lo ≤ 1) (e2 : x2.toInt = (hi : Int) - 1) (hhi : hi ≤ 10000) (hd : 1 < d)
    (h1 : nOK n tp lo hi (rn n tp isb q) → ∀ M', FrS X4 M M' → RA M' n tp (te n tp (rn n tp isb q)) → Φ (.inl (some (.int (nI (cvl n tp (rn n tp isb q)))))) M')
    (h0 : ¬ nOK n tp lo hi (rn n tp isb q) → ∀ M', FrS X46 M M' → RFt M' n tp (fcd n tp (rn n tp isb q)) (rn n tp isb q) (rn n tp isd (rn n tp isb q)) → Φ (.inl (some (.int 0))) M') : Ct l G d mRe_numberHere bc bs [.ref 206, .int x1, .int x2, .int (-1)] M Φ :=
  ct_numberHere M hA lo hi 200000 x1 x2 (-1) e1 hlo e2 hhi m1_v hd (fun k => h1 k.1) (fun k => h0 (fun t => k ⟨t, fun u => by have := cvl_lt n tp (rn n tp isb q); omega⟩))
theorem ct_readsPerson (M : Mm) {n : Nat} {tp : Nat → Nat} {q np k : Nat} {F : Nat → Nat → Nat} (hA : RA M n tp q) (hP : RPp M np F) (hk : m_i M 206 7 = nI k) (hnp : np < 8) (hd : 2 < d) (h : RwPost M n tp k (perS n tp (rn n tp isb q) np F) Φ) : Ct l G d mRe_readsPerson bc bs [.ref 206] M Φ := by
  have hS := hA.1.1
  have hP10 := hP.1
  obtain ⟨hok, hno⟩ := h
  refine Ct.of rfl (Nat.le_of_ble_eq_true rfl) ?_
  have h0 : RPd M M n tp np (rn n tp isb q) F 0 q (F np) := ⟨FrS.rf _ _, hA, hP, fun j hj => absurd hj (by omega), rfl, rfl⟩
  have fin : ∀ M1 s2, RS M1 → m_i M1 206 10 = nI np → (∀ M2, FrS (fun a j => a = 209 + np ∧ 4 ≤ j ∨ a = 206 ∧ j = 10) M1 M2 → m_i M2 (209 + np) 4 = s2 → m_i M2 (209 + np) 5 = 0 → m_i M2 (209 + np) 6 = 3 → m_i M2 (209 + np) 7 = 0 → m_i M2 206 10 = nI (np + 1) → Φ (.inl none) M2) → Ev l G d mRe_readsPerson 66 [.ref 206, .ref (209 + np)] [.int s2, .int 4, .ref (209 + np)] M1 bc bs Φ := by
    intro M1 s2 hS1 h10 hh
    refine bRe_readsPerson_66 _ _ _ _ _ _ ?_
    simp (disch := omega) only [hS1.c, hS1.r_fed, hS1.s_fed, hS1.r_rKind, hS1.s_rKind, hS1.r_kind, hS1.s_kind, hS1.r_rNum, hS1.s_rNum, hS1.r_num, hS1.s_num, hS1.r_rLong, hS1.s_rLong, hS1.r_cLong, hS1.s_cLong, hS1.r_stack, hS1.s_stack, hS1.r_names, hS1.s_names, hS1.r_row, hS1.s_row, hS1.r_ruleOf, hS1.s_ruleOf, hS1.r_ways, hS1.s_ways, hS1.r_cWho, hS1.s_cWho, hS1.r_cMin, hS1.s_cMin, hS1.r_cOff, hS1.s_cOff, hS1.r_cTh, hS1.s_cTh, hS1.r_cEnd, hS1.s_cEnd, hS1.r_hds, hS1.s_hds, hS1.r_ends, hS1.s_ends, hS1.r_there, hS1.s_there, hS1.r_offd, hS1.s_offd, hS1.r_had, hS1.s_had, hS1.r_rPer, hS1.s_rPer, hS1.r_rP, hS1.s_rP, hS1.r_per, hS1.s_per, hS1.r_pr, hS1.s_pr, hS1.r_rCode, hS1.s_rCode, hS1.r_rC, hS1.s_rC, hS1.r_code, hS1.s_code, hS1.r_cd, hS1.s_cd, hS1.r_kept, hS1.s_kept, hS1.r_kp, hS1.s_kp, hS1.r_holder, hS1.s_holder, hS1.r_hd, hS1.s_hd, hS1.r_pass, hS1.s_pass, hS1.r_ps, hS1.s_ps, hS1.r_debt, hS1.s_debt, hS1.r_db, hS1.s_db, hS1.r_endBy, hS1.s_endBy, hS1.r_eb, hS1.s_eb, vpT, vpk0, clk0, vpk1, clk1, vpk2, clk2, vpk3, clk3, vpk4, clk4, vpk5, clk5, vpk6, clk6, vpk7, clk7, vpk8, clk8, vpk9, clk9, nI_clamp, nI_1, true_and, h10]
    have F1 : FrS (fun a j => a = 209 + np ∧ 4 ≤ j) M1 (m_si (m_si M1 (209 + np) 4 s2) (209 + np) 5 0) := (FrS.si (P := fun a j => a = 209 + np ∧ 4 ≤ j) ⟨rfl, by omega⟩ _).tr (FrS.si ⟨rfl, by omega⟩ _)
    have v4 : m_i (m_si (m_si M1 (209 + np) 4 s2) (209 + np) 5 0) (209 + np) 4 = s2 := by rw [m_i_si, if_neg (by omega), m_i_si, if_pos ⟨rfl, rfl⟩]
    have v5 : m_i (m_si (m_si M1 (209 + np) 4 s2) (209 + np) 5 0) (209 + np) 5 = 0 := by rw [m_i_si, if_pos ⟨rfl, rfl⟩]
    generalize m_si (m_si M1 (209 + np) 4 s2) (209 + np) 5 0 = M3 at F1 v4 v5 ⊢
    have hS3 := hS1.fr F1
    refine bRe_readsPerson_71 _ _ _ ?_
    simp (disch := omega) only [hS3.c, hS3.r_fed, hS3.s_fed, hS3.r_rKind, hS3.s_rKind, hS3.r_kind, hS3.s_kind, hS3.r_rNum, hS3.s_rNum, hS3.r_num, hS3.s_num, hS3.r_rLong, hS3.s_rLong, hS3.r_cLong, hS3.s_cLong, hS3.r_stack, hS3.s_stack, hS3.r_names, hS3.s_names, hS3.r_row, hS3.s_row, hS3.r_ruleOf, hS3.s_ruleOf, hS3.r_ways, hS3.s_ways, hS3.r_cWho, hS3.s_cWho, hS3.r_cMin, hS3.s_cMin, hS3.r_cOff, hS3.s_cOff, hS3.r_cTh, hS3.s_cTh, hS3.r_cEnd, hS3.s_cEnd, hS3.r_hds, hS3.s_hds, hS3.r_ends, hS3.s_ends, hS3.r_there, hS3.s_there, hS3.r_offd, hS3.s_offd, hS3.r_had, hS3.s_had, hS3.r_rPer, hS3.s_rPer, hS3.r_rP, hS3.s_rP, hS3.r_per, hS3.s_per, hS3.r_pr, hS3.s_pr, hS3.r_rCode, hS3.s_rCode, hS3.r_rC, hS3.s_rC, hS3.r_code, hS3.s_code, hS3.r_cd, hS3.s_cd, hS3.r_kept, hS3.s_kept, hS3.r_kp, hS3.s_kp, hS3.r_holder, hS3.s_holder, hS3.r_hd, hS3.s_hd, hS3.r_pass, hS3.s_pass, hS3.r_ps, hS3.s_ps, hS3.r_debt, hS3.s_debt, hS3.r_db, hS3.s_db, hS3.r_endBy, hS3.s_endBy, hS3.r_eb, hS3.s_eb, vpT, vpk0, clk0, vpk1, clk1, vpk2, clk2, vpk3, clk3, vpk4, clk4, vpk5, clk5, vpk6, clk6, vpk7, clk7, vpk8, clk8, vpk9, clk9, nI_clamp, nI_1, true_and, h10]
    have F2 : FrS (fun a j => a = 209 + np ∧ 4 ≤ j) M3 (m_si (m_si M3 (209 + np) 6 3) (209 + np) 7 0) := (FrS.si (P := fun a j => a = 209 + np ∧ 4 ≤ j) ⟨rfl, by omega⟩ _).tr (FrS.si ⟨rfl, by omega⟩ _)
    have w4 : m_i (m_si (m_si M3 (209 + np) 6 3) (209 + np) 7 0) (209 + np) 4 = s2 := by rw [m_i_si, if_neg (by omega), m_i_si, if_neg (by omega)]; exact v4
    have w5 : m_i (m_si (m_si M3 (209 + np) 6 3) (209 + np) 7 0) (209 + np) 5 = 0 := by rw [m_i_si, if_neg (by omega), m_i_si, if_neg (by omega)]; exact v5
    have w6 : m_i (m_si (m_si M3 (209 + np) 6 3) (209 + np) 7 0) (209 + np) 6 = 3 := by rw [m_i_si, if_neg (by omega), m_i_si, if_pos ⟨rfl, rfl⟩]
    have w7 : m_i (m_si (m_si M3 (209 + np) 6 3) (209 + np) 7 0) (209 + np) 7 = 0 := by rw [m_i_si, if_pos ⟨rfl, rfl⟩]
    generalize m_si (m_si M3 (209 + np) 6 3) (209 + np) 7 0 = M4 at F2 w4 w5 w6 w7 ⊢
    have F12 := F1.tr F2
    have hS4 := hS1.fr F12
    have h10' : m_i M4 206 10 = nI np := by rw [F12.1 _ _ (by omega)]; exact h10
    refine bRe_readsPerson_81 _ _ _ ⟨hS4.c, ?_⟩
    rw [h10', nI_1]
    exact hh _ ((F12.mono (fun a j k => Or.inl k)).tr (FrS.si (P := fun a j => a = 209 + np ∧ 4 ≤ j ∨ a = 206 ∧ j = 10) (Or.inr ⟨rfl, rfl⟩) _)) (by rw [m_i_si, if_neg (by omega)]; exact w4) (by rw [m_i_si, if_neg (by omega)]; exact w5) (by rw [m_i_si, if_neg (by omega)]; exact w6) (by rw [m_i_si, if_neg (by omega)]; exact w7) (by rw [m_i_si, if_pos ⟨rfl, rfl⟩])
  have fx : ∀ (M1 M2 : Mm) (fc fp q1 : Nat), FrS XPs M M1 → FrS X46 M1 M2 → RPp M1 np F → RFt M2 n tp fc fp q1 → FrS XP M M2 ∧ m_i M2 206 10 = nI np := fun M1 M2 fc fp q1 F1 F2 h1 _ => ⟨(F1.mono XPs_P).tr (F2.mono X46_P), by rw [F2.1 _ _ (by unfold X46; omega)]; exact h1.1⟩
  -- after a fault
  have t66 : ∀ M1 q1 fc fp, FrS XP M M1 → m_i M1 206 10 = nI np → RFt M1 n tp fc fp q1 → (perS n tp (rn n tp isb q) np F).1 = fc → (perS n tp (rn n tp isb q) np F).2.1 = fp → Ev l G d mRe_readsPerson 66 [.ref 206, .ref (209 + np)] [.int 0, .int 4, .ref (209 + np)] M1 bc bs Φ := fun M1 q1 fc fp F1 h10 hF e1 e2 => by
    refine fin M1 0 hF.1.1 h10 (fun M2 F2 _ _ _ _ _ => hno ?_ M2 q1 (F1.tr (F2.mono (fun a j k => by unfold XP; omega))) ?_)
    · rw [e1]; have := hF.2.2.1; omega
    · rw [e1, e2]
      exact hF.fr F2 (by omega) (fun j => by omega) (by omega) (by omega) (by rw [F2.1 _ _ (by omega)]; exact hF.2.2.2.2.1) hF.2.2.2.2.2
  have wr : ∀ (M1 : Mm) (w q1 fc fp : Nat), FrS XP M M1 → m_i M1 206 10 = nI np → RFt M1 n tp fc fp q1 → FrS XP M (m_si M1 (209 + np) w 0) ∧ m_i (m_si M1 (209 + np) w 0) 206 10 = nI np ∧ RFt (m_si M1 (209 + np) w 0) n tp fc fp q1 := fun M1 w q1 fc fp F1 h10 hF => by
    have F2 : FrS (fun a _ => a = 209 + np) M1 (m_si M1 (209 + np) w 0) := FrS.si (P := fun a _ => a = 209 + np) rfl _
    exact ⟨F1.tr (F2.mono (fun a j k => by unfold XP; omega)), by rw [F2.1 _ _ (by omega)]; exact h10, hF.fr F2 (by omega) (fun j => by omega) (by omega) (by omega) (by rw [F2.1 _ _ (by omega)]; exact hF.2.2.2.2.1) hF.2.2.2.2.2⟩
  have t54 : ∀ M1 q1 fc fp, FrS XP M M1 → m_i M1 206 10 = nI np → RFt M1 n tp fc fp q1 → (perS n tp (rn n tp isb q) np F).1 = fc → (perS n tp (rn n tp isb q) np F).2.1 = fp → Ev l G d mRe_readsPerson 54 [.ref 206, .ref (209 + np)] [.int 0, .int 3, .ref (209 + np)] M1 bc bs Φ := fun M1 q1 fc fp F1 h10 hF e1 e2 => by
    have hS1 := hF.1.1
    obtain ⟨g1, g2, g3⟩ := wr M1 3 q1 fc fp F1 h10 hF
    refine bRe_readsPerson_54 _ _ _ _ _ _ ?_
    simp (disch := omega) only [hS1.c, hS1.r_fed, hS1.s_fed, hS1.r_rKind, hS1.s_rKind, hS1.r_kind, hS1.s_kind, hS1.r_rNum, hS1.s_rNum, hS1.r_num, hS1.s_num, hS1.r_rLong, hS1.s_rLong, hS1.r_cLong, hS1.s_cLong, hS1.r_stack, hS1.s_stack, hS1.r_names, hS1.s_names, hS1.r_row, hS1.s_row, hS1.r_ruleOf, hS1.s_ruleOf, hS1.r_ways, hS1.s_ways, hS1.r_cWho, hS1.s_cWho, hS1.r_cMin, hS1.s_cMin, hS1.r_cOff, hS1.s_cOff, hS1.r_cTh, hS1.s_cTh, hS1.r_cEnd, hS1.s_cEnd, hS1.r_hds, hS1.s_hds, hS1.r_ends, hS1.s_ends, hS1.r_there, hS1.s_there, hS1.r_offd, hS1.s_offd, hS1.r_had, hS1.s_had, hS1.r_rPer, hS1.s_rPer, hS1.r_rP, hS1.s_rP, hS1.r_per, hS1.s_per, hS1.r_pr, hS1.s_pr, hS1.r_rCode, hS1.s_rCode, hS1.r_rC, hS1.s_rC, hS1.r_code, hS1.s_code, hS1.r_cd, hS1.s_cd, hS1.r_kept, hS1.s_kept, hS1.r_kp, hS1.s_kp, hS1.r_holder, hS1.s_holder, hS1.r_hd, hS1.s_hd, hS1.r_pass, hS1.s_pass, hS1.r_ps, hS1.s_ps, hS1.r_debt, hS1.s_debt, hS1.r_db, hS1.s_db, hS1.r_endBy, hS1.s_endBy, hS1.r_eb, hS1.s_eb, vpT, vpk0, clk0, vpk1, clk1, vpk2, clk2, vpk3, clk3, vpk4, clk4, vpk5, clk5, vpk6, clk6, vpk7, clk7, vpk8, clk8, vpk9, clk9, nI_clamp, nI_1, true_and, h10]
    exact CallVC.cps0 (by omega) (ct_numF _ g3 _ _ _ (t66 _ q1 fc fp g1 g2 g3 e1 e2))
  have t43 : ∀ M1 q1 fc fp, FrS XP M M1 → m_i M1 206 10 = nI np → RFt M1 n tp fc fp q1 → (perS n tp (rn n tp isb q) np F).1 = fc → (perS n tp (rn n tp isb q) np F).2.1 = fp → Ev l G d mRe_readsPerson 43 [.ref 206, .ref (209 + np)] [.int 0, .int 2, .ref (209 + np)] M1 bc bs Φ := fun M1 q1 fc fp F1 h10 hF e1 e2 => by
    have hS1 := hF.1.1
    obtain ⟨g1, g2, g3⟩ := wr M1 2 q1 fc fp F1 h10 hF
    refine bRe_readsPerson_43 _ _ _ _ _ _ ?_
    simp (disch := omega) only [hS1.c, hS1.r_fed, hS1.s_fed, hS1.r_rKind, hS1.s_rKind, hS1.r_kind, hS1.s_kind, hS1.r_rNum, hS1.s_rNum, hS1.r_num, hS1.s_num, hS1.r_rLong, hS1.s_rLong, hS1.r_cLong, hS1.s_cLong, hS1.r_stack, hS1.s_stack, hS1.r_names, hS1.s_names, hS1.r_row, hS1.s_row, hS1.r_ruleOf, hS1.s_ruleOf, hS1.r_ways, hS1.s_ways, hS1.r_cWho, hS1.s_cWho, hS1.r_cMin, hS1.s_cMin, hS1.r_cOff, hS1.s_cOff, hS1.r_cTh, hS1.s_cTh, hS1.r_cEnd, hS1.s_cEnd, hS1.r_hds, hS1.s_hds, hS1.r_ends, hS1.s_ends, hS1.r_there, hS1.s_there, hS1.r_offd, hS1.s_offd, hS1.r_had, hS1.s_had, hS1.r_rPer, hS1.s_rPer, hS1.r_rP, hS1.s_rP, hS1.r_per, hS1.s_per, hS1.r_pr, hS1.s_pr, hS1.r_rCode, hS1.s_rCode, hS1.r_rC, hS1.s_rC, hS1.r_code, hS1.s_code, hS1.r_cd, hS1.s_cd, hS1.r_kept, hS1.s_kept, hS1.r_kp, hS1.s_kp, hS1.r_holder, hS1.s_holder, hS1.r_hd, hS1.s_hd, hS1.r_pass, hS1.s_pass, hS1.r_ps, hS1.s_ps, hS1.r_debt, hS1.s_debt, hS1.r_db, hS1.s_db, hS1.r_endBy, hS1.s_endBy, hS1.r_eb, hS1.s_eb, vpT, vpk0, clk0, vpk1, clk1, vpk2, clk2, vpk3, clk3, vpk4, clk4, vpk5, clk5, vpk6, clk6, vpk7, clk7, vpk8, clk8, vpk9, clk9, nI_clamp, nI_1, true_and, h10]
    exact CallVC.cps0 (by omega) (ct_numF _ g3 _ _ _ (t54 _ q1 fc fp g1 g2 g3 e1 e2))
  have t32 : ∀ M1 q1 fc fp, FrS XP M M1 → m_i M1 206 10 = nI np → RFt M1 n tp fc fp q1 → (perS n tp (rn n tp isb q) np F).1 = fc → (perS n tp (rn n tp isb q) np F).2.1 = fp → Ev l G d mRe_readsPerson 32 [.ref 206, .ref (209 + np)] [.int 0, .int 1, .ref (209 + np)] M1 bc bs Φ := fun M1 q1 fc fp F1 h10 hF e1 e2 => by
    have hS1 := hF.1.1
    obtain ⟨g1, g2, g3⟩ := wr M1 1 q1 fc fp F1 h10 hF
    refine bRe_readsPerson_32 _ _ _ _ _ _ ?_
    simp (disch := omega) only [hS1.c, hS1.r_fed, hS1.s_fed, hS1.r_rKind, hS1.s_rKind, hS1.r_kind, hS1.s_kind, hS1.r_rNum, hS1.s_rNum, hS1.r_num, hS1.s_num, hS1.r_rLong, hS1.s_rLong, hS1.r_cLong, hS1.s_cLong, hS1.r_stack, hS1.s_stack, hS1.r_names, hS1.s_names, hS1.r_row, hS1.s_row, hS1.r_ruleOf, hS1.s_ruleOf, hS1.r_ways, hS1.s_ways, hS1.r_cWho, hS1.s_cWho, hS1.r_cMin, hS1.s_cMin, hS1.r_cOff, hS1.s_cOff, hS1.r_cTh, hS1.s_cTh, hS1.r_cEnd, hS1.s_cEnd, hS1.r_hds, hS1.s_hds, hS1.r_ends, hS1.s_ends, hS1.r_there, hS1.s_there, hS1.r_offd, hS1.s_offd, hS1.r_had, hS1.s_had, hS1.r_rPer, hS1.s_rPer, hS1.r_rP, hS1.s_rP, hS1.r_per, hS1.s_per, hS1.r_pr, hS1.s_pr, hS1.r_rCode, hS1.s_rCode, hS1.r_rC, hS1.s_rC, hS1.r_code, hS1.s_code, hS1.r_cd, hS1.s_cd, hS1.r_kept, hS1.s_kept, hS1.r_kp, hS1.s_kp, hS1.r_holder, hS1.s_holder, hS1.r_hd, hS1.s_hd, hS1.r_pass, hS1.s_pass, hS1.r_ps, hS1.s_ps, hS1.r_debt, hS1.s_debt, hS1.r_db, hS1.s_db, hS1.r_endBy, hS1.s_endBy, hS1.r_eb, hS1.s_eb, vpT, vpk0, clk0, vpk1, clk1, vpk2, clk2, vpk3, clk3, vpk4, clk4, vpk5, clk5, vpk6, clk6, vpk7, clk7, vpk8, clk8, vpk9, clk9, nI_clamp, nI_1, true_and, h10]
    exact CallVC.cps0 (by omega) (ct_numF _ g3 _ _ _ (t43 _ q1 fc fp g1 g2 g3 e1 e2))
  have t21 : ∀ M1 q1 fc fp, FrS XP M M1 → m_i M1 206 10 = nI np → RFt M1 n tp fc fp q1 → (perS n tp (rn n tp isb q) np F).1 = fc → (perS n tp (rn n tp isb q) np F).2.1 = fp → Ev l G d mRe_readsPerson 21 [.ref 206, .ref (209 + np)] [.int 0, .int 0, .ref (209 + np)] M1 bc bs Φ := fun M1 q1 fc fp F1 h10 hF e1 e2 => by
    have hS1 := hF.1.1
    obtain ⟨g1, g2, g3⟩ := wr M1 0 q1 fc fp F1 h10 hF
    refine bRe_readsPerson_21 _ _ _ _ _ _ ?_
    simp (disch := omega) only [hS1.c, hS1.r_fed, hS1.s_fed, hS1.r_rKind, hS1.s_rKind, hS1.r_kind, hS1.s_kind, hS1.r_rNum, hS1.s_rNum, hS1.r_num, hS1.s_num, hS1.r_rLong, hS1.s_rLong, hS1.r_cLong, hS1.s_cLong, hS1.r_stack, hS1.s_stack, hS1.r_names, hS1.s_names, hS1.r_row, hS1.s_row, hS1.r_ruleOf, hS1.s_ruleOf, hS1.r_ways, hS1.s_ways, hS1.r_cWho, hS1.s_cWho, hS1.r_cMin, hS1.s_cMin, hS1.r_cOff, hS1.s_cOff, hS1.r_cTh, hS1.s_cTh, hS1.r_cEnd, hS1.s_cEnd, hS1.r_hds, hS1.s_hds, hS1.r_ends, hS1.s_ends, hS1.r_there, hS1.s_there, hS1.r_offd, hS1.s_offd, hS1.r_had, hS1.s_had, hS1.r_rPer, hS1.s_rPer, hS1.r_rP, hS1.s_rP, hS1.r_per, hS1.s_per, hS1.r_pr, hS1.s_pr, hS1.r_rCode, hS1.s_rCode, hS1.r_rC, hS1.s_rC, hS1.r_code, hS1.s_code, hS1.r_cd, hS1.s_cd, hS1.r_kept, hS1.s_kept, hS1.r_kp, hS1.s_kp, hS1.r_holder, hS1.s_holder, hS1.r_hd, hS1.s_hd, hS1.r_pass, hS1.s_pass, hS1.r_ps, hS1.s_ps, hS1.r_debt, hS1.s_debt, hS1.r_db, hS1.s_db, hS1.r_endBy, hS1.s_endBy, hS1.r_eb, hS1.s_eb, vpT, vpk0, clk0, vpk1, clk1, vpk2, clk2, vpk3, clk3, vpk4, clk4, vpk5, clk5, vpk6, clk6, vpk7, clk7, vpk8, clk8, vpk9, clk9, nI_clamp, nI_1, true_and, h10]
    exact CallVC.cps0 (by omega) (ct_numF _ g3 _ _ _ (t32 _ q1 fc fp g1 g2 g3 e1 e2))
  have bad : ∀ (M1 : Mm) (w q1 : Nat) (f : Nat → Nat), w < 5 → RPd M M1 n tp np (rn n tp isb q) F w q1 f → ¬ nOK n tp (loN w) (hiN w) (rn n tp isb q1) → (perS n tp (rn n tp isb q) np F).1 = fcd n tp (rn n tp isb q1) ∧ (perS n tp (rn n tp isb q) np F).2.1 = rn n tp isb q1 := fun M1 w q1 f hw hR hb => hR.bad hw hb
  have ok5 : ∀ (M1 M2 : Mm) (q1 : Nat) (f : Nat → Nat), RPd M M1 n tp np (rn n tp isb q) F 4 q1 f → nOK n tp (loN 4) (hiN 4) (rn n tp isb q1) → FrS X4 M1 M2 → RA M2 n tp (te n tp (rn n tp isb q1)) → Ev l G d mRe_readsPerson 66 [.ref 206, .ref (209 + np)] [.int (nI (cvl n tp (rn n tp isb q1))), .int 4, .ref (209 + np)] M2 bc bs Φ := fun M1 M2 q1 f hR ok F2 hA2 => by
    have h5 := hR.step (by omega) hnp ok F2 hA2
    refine fin M2 _ hA2.1.1 (by rw [F2.1 _ _ (by unfold X4; omega)]; exact hR.2.2.1.1) (fun M3 F3 v4 v5 v6 v7 v10 => ?_)
    have F02 : FrS XPs M M2 := hR.1.tr (F2.mono X4_Ps)
    generalize upN f 4 (cvl n tp (rn n tp isb q1)) = f5 at h5
    obtain ⟨-, -, -, b4, b5, -⟩ := h5
    have b5' : (0, rn n tp isb (te n tp (rn n tp isb q1)), f5) = psF n tp 5 0 (rn n tp isb q) (F np) := b5
    have e : perS n tp (rn n tp isb q) np F = (0, rn n tp isb (te n tp (rn n tp isb q1)), np + 1, fun x => if x = np then perF f5 else F x) := by unfold perS; rw [← b5']
    have hP2 := hR.2.2.1.x4 F2
    rw [e] at hok
    refine hok rfl M3 (te n tp (rn n tp isb q1)) (F02.tr (F3.mono (fun a j k => by unfold XPs; omega))) (hA2.fr F3 (by omega) (fun j => by omega) (by omega) (by rw [F3.1 _ _ (by omega)]; exact hA2.2.1) hA2.2.2.1) rfl ⟨v10, by show np + 1 ≤ 8; omega, fun p w hp hw => ?_, fun p hp => ?_⟩ (by rw [F3.1 _ _ (by omega), F2.1 _ _ (by unfold X4; omega), hR.2.2.2.2.2]; exact hk)
    · show m_i M3 (209 + p) w = nI ((if p = np then perF f5 else F p) w)
      have hp' : p < np + 1 := hp
      by_cases z : p = np
      · subst z
        rw [if_pos rfl]
        unfold perF
        by_cases w5 : w = 5
        · subst w5; rw [if_pos rfl]; exact v5
        · rw [if_neg w5]
          by_cases w6 : w = 6
          · subst w6; rw [if_pos rfl]; exact v6
          · rw [if_neg w6]
            by_cases w7 : w = 7
            · subst w7; rw [if_pos rfl]; exact v7
            · rw [if_neg w7]
              have bb := b4 w (by omega)
              rw [m_i_si] at bb
              by_cases w4 : w = 4
              · subst w4; rw [if_pos ⟨rfl, rfl⟩] at bb; rw [v4]; exact bb
              · rw [if_neg (fun t => w4 t.2)] at bb
                rw [F3.1 _ _ (by omega)]; exact bb
      · rw [if_neg z, F3.1 _ _ (by omega)]
        exact hP2.2.2.1 p w (by omega) hw
    · show (if p = np then perF f5 else F p) 7 < 256
      have hp' : p < np + 1 := hp
      by_cases z : p = np
      · rw [if_pos z]; show 0 < 256; omega
      · rw [if_neg z]; exact hP2.2.2.2 p (by omega)
  have ok4 : ∀ (M1 M2 : Mm) (q1 : Nat) (f : Nat → Nat), RPd M M1 n tp np (rn n tp isb q) F 3 q1 f → nOK n tp (loN 3) (hiN 3) (rn n tp isb q1) → FrS X4 M1 M2 → RA M2 n tp (te n tp (rn n tp isb q1)) → Ev l G d mRe_readsPerson 54 [.ref 206, .ref (209 + np)] [.int (nI (cvl n tp (rn n tp isb q1))), .int 3, .ref (209 + np)] M2 bc bs Φ := fun M1 M2 q1 f hR ok F2 hA2 => by
    have h5 := hR.step (by omega) hnp ok F2 hA2
    have hS2 := hA2.1.1
    refine bRe_readsPerson_54 _ _ _ _ _ _ ?_
    simp (disch := omega) only [hS2.c, hS2.r_fed, hS2.s_fed, hS2.r_rKind, hS2.s_rKind, hS2.r_kind, hS2.s_kind, hS2.r_rNum, hS2.s_rNum, hS2.r_num, hS2.s_num, hS2.r_rLong, hS2.s_rLong, hS2.r_cLong, hS2.s_cLong, hS2.r_stack, hS2.s_stack, hS2.r_names, hS2.s_names, hS2.r_row, hS2.s_row, hS2.r_ruleOf, hS2.s_ruleOf, hS2.r_ways, hS2.s_ways, hS2.r_cWho, hS2.s_cWho, hS2.r_cMin, hS2.s_cMin, hS2.r_cOff, hS2.s_cOff, hS2.r_cTh, hS2.s_cTh, hS2.r_cEnd, hS2.s_cEnd, hS2.r_hds, hS2.s_hds, hS2.r_ends, hS2.s_ends, hS2.r_there, hS2.s_there, hS2.r_offd, hS2.s_offd, hS2.r_had, hS2.s_had, hS2.r_rPer, hS2.s_rPer, hS2.r_rP, hS2.s_rP, hS2.r_per, hS2.s_per, hS2.r_pr, hS2.s_pr, hS2.r_rCode, hS2.s_rCode, hS2.r_rC, hS2.s_rC, hS2.r_code, hS2.s_code, hS2.r_cd, hS2.s_cd, hS2.r_kept, hS2.s_kept, hS2.r_kp, hS2.s_kp, hS2.r_holder, hS2.s_holder, hS2.r_hd, hS2.s_hd, hS2.r_pass, hS2.s_pass, hS2.r_ps, hS2.s_ps, hS2.r_debt, hS2.s_debt, hS2.r_db, hS2.s_db, hS2.r_endBy, hS2.s_endBy, hS2.r_eb, hS2.s_eb, vpT, vpk0, clk0, vpk1, clk1, vpk2, clk2, vpk3, clk3, vpk4, clk4, vpk5, clk5, vpk6, clk6, vpk7, clk7, vpk8, clk8, vpk9, clk9, nI_clamp, nI_1, true_and, hP10]
    generalize upN f 3 (cvl n tp (rn n tp isb q1)) = f5 at h5
    generalize m_si M2 (209 + np) 3 (nI (cvl n tp (rn n tp isb q1))) = M3 at h5 ⊢
    refine CallVC.cps0 (by omega) (ct_numW M3 h5.2.1 1 1000 _ _ rfl (by omega) rfl (by omega) (by omega) (fun okk M4 F4 hA4 => ok5 M3 M4 _ f5 h5 okk F4 hA4) (fun no M4 F4 hF4 => ?_))
    obtain ⟨x1, x2⟩ := fx M3 M4 _ _ _ h5.1 F4 h5.2.2.1 hF4
    obtain ⟨y1, y2⟩ := bad M3 4 _ f5 (by omega) h5 no
    exact t66 M4 _ _ _ x1 x2 hF4 y1 y2
  have ok3 : ∀ (M1 M2 : Mm) (q1 : Nat) (f : Nat → Nat), RPd M M1 n tp np (rn n tp isb q) F 2 q1 f → nOK n tp (loN 2) (hiN 2) (rn n tp isb q1) → FrS X4 M1 M2 → RA M2 n tp (te n tp (rn n tp isb q1)) → Ev l G d mRe_readsPerson 43 [.ref 206, .ref (209 + np)] [.int (nI (cvl n tp (rn n tp isb q1))), .int 2, .ref (209 + np)] M2 bc bs Φ := fun M1 M2 q1 f hR ok F2 hA2 => by
    have h5 := hR.step (by omega) hnp ok F2 hA2
    have hS2 := hA2.1.1
    refine bRe_readsPerson_43 _ _ _ _ _ _ ?_
    simp (disch := omega) only [hS2.c, hS2.r_fed, hS2.s_fed, hS2.r_rKind, hS2.s_rKind, hS2.r_kind, hS2.s_kind, hS2.r_rNum, hS2.s_rNum, hS2.r_num, hS2.s_num, hS2.r_rLong, hS2.s_rLong, hS2.r_cLong, hS2.s_cLong, hS2.r_stack, hS2.s_stack, hS2.r_names, hS2.s_names, hS2.r_row, hS2.s_row, hS2.r_ruleOf, hS2.s_ruleOf, hS2.r_ways, hS2.s_ways, hS2.r_cWho, hS2.s_cWho, hS2.r_cMin, hS2.s_cMin, hS2.r_cOff, hS2.s_cOff, hS2.r_cTh, hS2.s_cTh, hS2.r_cEnd, hS2.s_cEnd, hS2.r_hds, hS2.s_hds, hS2.r_ends, hS2.s_ends, hS2.r_there, hS2.s_there, hS2.r_offd, hS2.s_offd, hS2.r_had, hS2.s_had, hS2.r_rPer, hS2.s_rPer, hS2.r_rP, hS2.s_rP, hS2.r_per, hS2.s_per, hS2.r_pr, hS2.s_pr, hS2.r_rCode, hS2.s_rCode, hS2.r_rC, hS2.s_rC, hS2.r_code, hS2.s_code, hS2.r_cd, hS2.s_cd, hS2.r_kept, hS2.s_kept, hS2.r_kp, hS2.s_kp, hS2.r_holder, hS2.s_holder, hS2.r_hd, hS2.s_hd, hS2.r_pass, hS2.s_pass, hS2.r_ps, hS2.s_ps, hS2.r_debt, hS2.s_debt, hS2.r_db, hS2.s_db, hS2.r_endBy, hS2.s_endBy, hS2.r_eb, hS2.s_eb, vpT, vpk0, clk0, vpk1, clk1, vpk2, clk2, vpk3, clk3, vpk4, clk4, vpk5, clk5, vpk6, clk6, vpk7, clk7, vpk8, clk8, vpk9, clk9, nI_clamp, nI_1, true_and, hP10]
    generalize upN f 2 (cvl n tp (rn n tp isb q1)) = f5 at h5
    generalize m_si M2 (209 + np) 2 (nI (cvl n tp (rn n tp isb q1))) = M3 at h5 ⊢
    refine CallVC.cps0 (by omega) (ct_numW M3 h5.2.1 1 61 _ _ rfl (by omega) rfl (by omega) (by omega) (fun okk M4 F4 hA4 => ok4 M3 M4 _ f5 h5 okk F4 hA4) (fun no M4 F4 hF4 => ?_))
    obtain ⟨x1, x2⟩ := fx M3 M4 _ _ _ h5.1 F4 h5.2.2.1 hF4
    obtain ⟨y1, y2⟩ := bad M3 3 _ f5 (by omega) h5 no
    exact t54 M4 _ _ _ x1 x2 hF4 y1 y2
  have ok2 : ∀ (M1 M2 : Mm) (q1 : Nat) (f : Nat → Nat), RPd M M1 n tp np (rn n tp isb q) F 1 q1 f → nOK n tp (loN 1) (hiN 1) (rn n tp isb q1) → FrS X4 M1 M2 → RA M2 n tp (te n tp (rn n tp isb q1)) → Ev l G d mRe_readsPerson 32 [.ref 206, .ref (209 + np)] [.int (nI (cvl n tp (rn n tp isb q1))), .int 1, .ref (209 + np)] M2 bc bs Φ := fun M1 M2 q1 f hR ok F2 hA2 => by
    have h5 := hR.step (by omega) hnp ok F2 hA2
    have hS2 := hA2.1.1
    refine bRe_readsPerson_32 _ _ _ _ _ _ ?_
    simp (disch := omega) only [hS2.c, hS2.r_fed, hS2.s_fed, hS2.r_rKind, hS2.s_rKind, hS2.r_kind, hS2.s_kind, hS2.r_rNum, hS2.s_rNum, hS2.r_num, hS2.s_num, hS2.r_rLong, hS2.s_rLong, hS2.r_cLong, hS2.s_cLong, hS2.r_stack, hS2.s_stack, hS2.r_names, hS2.s_names, hS2.r_row, hS2.s_row, hS2.r_ruleOf, hS2.s_ruleOf, hS2.r_ways, hS2.s_ways, hS2.r_cWho, hS2.s_cWho, hS2.r_cMin, hS2.s_cMin, hS2.r_cOff, hS2.s_cOff, hS2.r_cTh, hS2.s_cTh, hS2.r_cEnd, hS2.s_cEnd, hS2.r_hds, hS2.s_hds, hS2.r_ends, hS2.s_ends, hS2.r_there, hS2.s_there, hS2.r_offd, hS2.s_offd, hS2.r_had, hS2.s_had, hS2.r_rPer, hS2.s_rPer, hS2.r_rP, hS2.s_rP, hS2.r_per, hS2.s_per, hS2.r_pr, hS2.s_pr, hS2.r_rCode, hS2.s_rCode, hS2.r_rC, hS2.s_rC, hS2.r_code, hS2.s_code, hS2.r_cd, hS2.s_cd, hS2.r_kept, hS2.s_kept, hS2.r_kp, hS2.s_kp, hS2.r_holder, hS2.s_holder, hS2.r_hd, hS2.s_hd, hS2.r_pass, hS2.s_pass, hS2.r_ps, hS2.s_ps, hS2.r_debt, hS2.s_debt, hS2.r_db, hS2.s_db, hS2.r_endBy, hS2.s_endBy, hS2.r_eb, hS2.s_eb, vpT, vpk0, clk0, vpk1, clk1, vpk2, clk2, vpk3, clk3, vpk4, clk4, vpk5, clk5, vpk6, clk6, vpk7, clk7, vpk8, clk8, vpk9, clk9, nI_clamp, nI_1, true_and, hP10]
    generalize upN f 1 (cvl n tp (rn n tp isb q1)) = f5 at h5
    generalize m_si M2 (209 + np) 1 (nI (cvl n tp (rn n tp isb q1))) = M3 at h5 ⊢
    refine CallVC.cps0 (by omega) (ct_numW M3 h5.2.1 0 10 _ _ rfl (by omega) rfl (by omega) (by omega) (fun okk M4 F4 hA4 => ok3 M3 M4 _ f5 h5 okk F4 hA4) (fun no M4 F4 hF4 => ?_))
    obtain ⟨x1, x2⟩ := fx M3 M4 _ _ _ h5.1 F4 h5.2.2.1 hF4
    obtain ⟨y1, y2⟩ := bad M3 2 _ f5 (by omega) h5 no
    exact t43 M4 _ _ _ x1 x2 hF4 y1 y2
  have ok1 : ∀ (M1 M2 : Mm) (q1 : Nat) (f : Nat → Nat), RPd M M1 n tp np (rn n tp isb q) F 0 q1 f → nOK n tp (loN 0) (hiN 0) (rn n tp isb q1) → FrS X4 M1 M2 → RA M2 n tp (te n tp (rn n tp isb q1)) → Ev l G d mRe_readsPerson 21 [.ref 206, .ref (209 + np)] [.int (nI (cvl n tp (rn n tp isb q1))), .int 0, .ref (209 + np)] M2 bc bs Φ := fun M1 M2 q1 f hR ok F2 hA2 => by
    have h5 := hR.step (by omega) hnp ok F2 hA2
    have hS2 := hA2.1.1
    refine bRe_readsPerson_21 _ _ _ _ _ _ ?_
    simp (disch := omega) only [hS2.c, hS2.r_fed, hS2.s_fed, hS2.r_rKind, hS2.s_rKind, hS2.r_kind, hS2.s_kind, hS2.r_rNum, hS2.s_rNum, hS2.r_num, hS2.s_num, hS2.r_rLong, hS2.s_rLong, hS2.r_cLong, hS2.s_cLong, hS2.r_stack, hS2.s_stack, hS2.r_names, hS2.s_names, hS2.r_row, hS2.s_row, hS2.r_ruleOf, hS2.s_ruleOf, hS2.r_ways, hS2.s_ways, hS2.r_cWho, hS2.s_cWho, hS2.r_cMin, hS2.s_cMin, hS2.r_cOff, hS2.s_cOff, hS2.r_cTh, hS2.s_cTh, hS2.r_cEnd, hS2.s_cEnd, hS2.r_hds, hS2.s_hds, hS2.r_ends, hS2.s_ends, hS2.r_there, hS2.s_there, hS2.r_offd, hS2.s_offd, hS2.r_had, hS2.s_had, hS2.r_rPer, hS2.s_rPer, hS2.r_rP, hS2.s_rP, hS2.r_per, hS2.s_per, hS2.r_pr, hS2.s_pr, hS2.r_rCode, hS2.s_rCode, hS2.r_rC, hS2.s_rC, hS2.r_code, hS2.s_code, hS2.r_cd, hS2.s_cd, hS2.r_kept, hS2.s_kept, hS2.r_kp, hS2.s_kp, hS2.r_holder, hS2.s_holder, hS2.r_hd, hS2.s_hd, hS2.r_pass, hS2.s_pass, hS2.r_ps, hS2.s_ps, hS2.r_debt, hS2.s_debt, hS2.r_db, hS2.s_db, hS2.r_endBy, hS2.s_endBy, hS2.r_eb, hS2.s_eb, vpT, vpk0, clk0, vpk1, clk1, vpk2, clk2, vpk3, clk3, vpk4, clk4, vpk5, clk5, vpk6, clk6, vpk7, clk7, vpk8, clk8, vpk9, clk9, nI_clamp, nI_1, true_and, hP10]
    generalize upN f 0 (cvl n tp (rn n tp isb q1)) = f5 at h5
    generalize m_si M2 (209 + np) 0 (nI (cvl n tp (rn n tp isb q1))) = M3 at h5 ⊢
    refine CallVC.cps0 (by omega) (ct_numW M3 h5.2.1 0 100 _ _ rfl (by omega) rfl (by omega) (by omega) (fun okk M4 F4 hA4 => ok2 M3 M4 _ f5 h5 okk F4 hA4) (fun no M4 F4 hF4 => ?_))
    obtain ⟨x1, x2⟩ := fx M3 M4 _ _ _ h5.1 F4 h5.2.2.1 hF4
    obtain ⟨y1, y2⟩ := bad M3 1 _ f5 (by omega) h5 no
    exact t32 M4 _ _ _ x1 x2 hF4 y1 y2
  refine bRe_readsPerson_0 _ _ ?_
  simp (disch := omega) only [hS.c, hS.r_fed, hS.s_fed, hS.r_rKind, hS.s_rKind, hS.r_kind, hS.s_kind, hS.r_rNum, hS.s_rNum, hS.r_num, hS.s_num, hS.r_rLong, hS.s_rLong, hS.r_cLong, hS.s_cLong, hS.r_stack, hS.s_stack, hS.r_names, hS.s_names, hS.r_row, hS.s_row, hS.r_ruleOf, hS.s_ruleOf, hS.r_ways, hS.s_ways, hS.r_cWho, hS.s_cWho, hS.r_cMin, hS.s_cMin, hS.r_cOff, hS.s_cOff, hS.r_cTh, hS.s_cTh, hS.r_cEnd, hS.s_cEnd, hS.r_hds, hS.s_hds, hS.r_ends, hS.s_ends, hS.r_there, hS.s_there, hS.r_offd, hS.s_offd, hS.r_had, hS.s_had, hS.r_rPer, hS.s_rPer, hS.r_rP, hS.s_rP, hS.r_per, hS.s_per, hS.r_pr, hS.s_pr, hS.r_rCode, hS.s_rCode, hS.r_rC, hS.s_rC, hS.r_code, hS.s_code, hS.r_cd, hS.s_cd, hS.r_kept, hS.s_kept, hS.r_kp, hS.s_kp, hS.r_holder, hS.s_holder, hS.r_hd, hS.s_hd, hS.r_pass, hS.s_pass, hS.r_ps, hS.s_ps, hS.r_debt, hS.s_debt, hS.r_db, hS.s_db, hS.r_endBy, hS.s_endBy, hS.r_eb, hS.s_eb, vpT, vpk0, clk0, vpk1, clk1, vpk2, clk2, vpk3, clk3, vpk4, clk4, vpk5, clk5, vpk6, clk6, vpk7, clk7, vpk8, clk8, vpk9, clk9, nI_clamp, nI_1, true_and, hP10]
  refine CallVC.cps0 (by omega) (ct_numW M hA 0 1000 _ _ rfl (by omega) rfl (by omega) (by omega) (fun okk M4 F4 hA4 => ok1 M M4 _ _ h0 okk F4 hA4) (fun no M4 F4 hF4 => ?_))
  obtain ⟨x1, x2⟩ := fx M M4 _ _ _ (FrS.rf _ _) F4 hP hF4
  obtain ⟨y1, y2⟩ := bad M 0 _ _ (by omega) h0 no
  exact t21 M4 _ _ _ x1 x2 hF4 y1 y2
end RPE
