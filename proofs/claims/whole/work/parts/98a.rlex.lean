/-! ===== the reference: bytes, blanks, words, numbers ===== -/
/-- the text it reads, and where it is -/
def RT (M : Mm) (n : Nat) (tp : Nat → Nat) : Prop := RS M ∧ m_i M 206 2 = nI n ∧ n ≤ 500 ∧ ∀ j, j < n → m_i M 207 j = nI (tp j) ∧ tp j < 256
def X4 : Nat → Nat → Prop := fun a j => a = 206 ∧ j = 4
theorem RT.fr {M M' : Mm} {n : Nat} {tp : Nat → Nat} {X : Nat → Nat → Prop} (h : RT M n tp) (hF : FrS X M M') (h2 : ¬ X 206 2) (h3 : ∀ j, ¬ X 207 j) : RT M' n tp :=
  ⟨h.1.fr hF, by rw [hF.1 _ _ h2]; exact h.2.1, h.2.2.1, fun j hj => by rw [hF.1 _ _ (h3 j)]; exact h.2.2.2 j hj⟩
def bt (n : Nat) (tp : Nat → Nat) (p : Nat) : Int32 := if p < n then nI (tp p) else -1
section RLX
variable {l : Launch} {G : Gx} {d : Nat} {bc bs : Nat} {Φ : OutV → Mm → Prop}
theorem ct_byteAt (M : Mm) {n : Nat} {tp : Nat → Nat} (hT : RT M n tp) (p : Nat) (hp : p < 100000) (h : Φ (.inl (some (.int (bt n tp p)))) M) : Ct l G d mRe_byteAt bc bs [.ref 206, .int (nI p)] M Φ := by
  obtain ⟨hS, h2, hn, hb⟩ := id hT
  unfold bt at h
  refine Ct.of rfl (Nat.le_of_ble_eq_true rfl) ?_
  refine bRe_byteAt_0 _ _ _ ⟨hS.c, fun z => ?_, fun z => ?_⟩
  · rw [h2] at z
    have z' : p < n := (nI_ltI (by omega) (by omega)).mp z
    rw [if_pos z'] at h
    refine ⟨by simp (disch := omega) only [hS.c, hS.r_fed, hS.s_fed, hS.r_rKind, hS.s_rKind, hS.r_kind, hS.s_kind, hS.r_rNum, hS.s_rNum, hS.r_num, hS.s_num, hS.r_rLong, hS.s_rLong, hS.r_cLong, hS.s_cLong, hS.r_stack, hS.s_stack, hS.r_names, hS.s_names, hS.r_row, hS.s_row, hS.r_ruleOf, hS.s_ruleOf, hS.r_ways, hS.s_ways, hS.r_cWho, hS.s_cWho, hS.r_cMin, hS.s_cMin, hS.r_cOff, hS.s_cOff, hS.r_cTh, hS.s_cTh, hS.r_cEnd, hS.s_cEnd, hS.r_hds, hS.s_hds, hS.r_ends, hS.s_ends, hS.r_there, hS.s_there, hS.r_offd, hS.s_offd, hS.r_had, hS.s_had, hS.r_rPer, hS.s_rPer, hS.r_rP, hS.s_rP, hS.r_per, hS.s_per, hS.r_pr, hS.s_pr, hS.r_rCode, hS.s_rCode, hS.r_rC, hS.s_rC, hS.r_code, hS.s_code, hS.r_cd, hS.s_cd, hS.r_kept, hS.s_kept, hS.r_kp, hS.s_kp, hS.r_holder, hS.s_holder, hS.r_hd, hS.s_hd, hS.r_pass, hS.s_pass, hS.r_ps, hS.s_ps, hS.r_debt, hS.s_debt, hS.r_db, hS.s_db, hS.r_endBy, hS.s_endBy, hS.r_eb, hS.s_eb, vpT, vpk0, clk0, vpk1, clk1, vpk2, clk2, vpk3, clk3, vpk4, clk4, vpk5, clk5, vpk6, clk6, vpk7, clk7, vpk8, clk8, vpk9, clk9, nI_clamp, nI_1, true_and, h2], ?_, ?_⟩
    · simp (disch := omega) only [hS.c, hS.r_fed, hS.s_fed, hS.r_rKind, hS.s_rKind, hS.r_kind, hS.s_kind, hS.r_rNum, hS.s_rNum, hS.r_num, hS.s_num, hS.r_rLong, hS.s_rLong, hS.r_cLong, hS.s_cLong, hS.r_stack, hS.s_stack, hS.r_names, hS.s_names, hS.r_row, hS.s_row, hS.r_ruleOf, hS.s_ruleOf, hS.r_ways, hS.s_ways, hS.r_cWho, hS.s_cWho, hS.r_cMin, hS.s_cMin, hS.r_cOff, hS.s_cOff, hS.r_cTh, hS.s_cTh, hS.r_cEnd, hS.s_cEnd, hS.r_hds, hS.s_hds, hS.r_ends, hS.s_ends, hS.r_there, hS.s_there, hS.r_offd, hS.s_offd, hS.r_had, hS.s_had, hS.r_rPer, hS.s_rPer, hS.r_rP, hS.s_rP, hS.r_per, hS.s_per, hS.r_pr, hS.s_pr, hS.r_rCode, hS.s_rCode, hS.r_rC, hS.s_rC, hS.r_code, hS.s_code, hS.r_cd, hS.s_cd, hS.r_kept, hS.s_kept, hS.r_kp, hS.s_kp, hS.r_holder, hS.s_holder, hS.r_hd, hS.s_hd, hS.r_pass, hS.s_pass, hS.r_ps, hS.s_ps, hS.r_debt, hS.s_debt, hS.r_db, hS.s_db, hS.r_endBy, hS.s_endBy, hS.r_eb, hS.s_eb, vpT, vpk0, clk0, vpk1, clk1, vpk2, clk2, vpk3, clk3, vpk4, clk4, vpk5, clk5, vpk6, clk6, vpk7, clk7, vpk8, clk8, vpk9, clk9, nI_clamp, nI_1, true_and, h2]
    · simp (disch := omega) only [hS.c, hS.r_fed, hS.s_fed, hS.r_rKind, hS.s_rKind, hS.r_kind, hS.s_kind, hS.r_rNum, hS.s_rNum, hS.r_num, hS.s_num, hS.r_rLong, hS.s_rLong, hS.r_cLong, hS.s_cLong, hS.r_stack, hS.s_stack, hS.r_names, hS.s_names, hS.r_row, hS.s_row, hS.r_ruleOf, hS.s_ruleOf, hS.r_ways, hS.s_ways, hS.r_cWho, hS.s_cWho, hS.r_cMin, hS.s_cMin, hS.r_cOff, hS.s_cOff, hS.r_cTh, hS.s_cTh, hS.r_cEnd, hS.s_cEnd, hS.r_hds, hS.s_hds, hS.r_ends, hS.s_ends, hS.r_there, hS.s_there, hS.r_offd, hS.s_offd, hS.r_had, hS.s_had, hS.r_rPer, hS.s_rPer, hS.r_rP, hS.s_rP, hS.r_per, hS.s_per, hS.r_pr, hS.s_pr, hS.r_rCode, hS.s_rCode, hS.r_rC, hS.s_rC, hS.r_code, hS.s_code, hS.r_cd, hS.s_cd, hS.r_kept, hS.s_kept, hS.r_kp, hS.s_kp, hS.r_holder, hS.s_holder, hS.r_hd, hS.s_hd, hS.r_pass, hS.s_pass, hS.r_ps, hS.s_ps, hS.r_debt, hS.s_debt, hS.r_db, hS.s_db, hS.r_endBy, hS.s_endBy, hS.r_eb, hS.s_eb, vpT, vpk0, clk0, vpk1, clk1, vpk2, clk2, vpk3, clk3, vpk4, clk4, vpk5, clk5, vpk6, clk6, vpk7, clk7, vpk8, clk8, vpk9, clk9, nI_clamp, nI_1, true_and, h2]
      rw [(hb p z').1]
      exact h
  · rw [h2] at z
    have z' : ¬ p < n := fun y => z ((nI_ltI (by omega) (by omega)).mpr y)
    rw [if_neg z'] at h
    exact h
theorem bt_b {n : Nat} {tp : Nat → Nat} {p : Nat} (hb : ∀ j, j < n → tp j < 256) {c : Nat} (hc : c < 256) : bt n tp p = nI c ↔ p < n ∧ tp p = c := by
  unfold bt
  by_cases z : p < n
  · have := hb p z
    rw [if_pos z, nI_eq (by omega) (by omega)]
    exact ⟨fun e => ⟨z, e⟩, fun e => e.2⟩
  · rw [if_neg z]
    exact ⟨fun e => absurd (by rw [← e]; decide : nI c < 0) (nI_pos (by omega)), fun e => absurd e.1 z⟩
theorem ct_blanks (M : Mm) {n : Nat} {tp : Nat → Nat} (hT : RT M n tp) (hd : 0 < d) : ∀ q M1, q ≤ n → FrS X4 M M1 → m_i M1 206 4 = nI q → (∀ M', FrS X4 M M' → m_i M' 206 4 = nI (rn n tp isb q) → Φ (.inl none) M') → Ev l G d mRe_blanks 0 [.ref 206] [] M1 bc bs Φ := by
  have hn := hT.2.2.1
  have hb := fun j hj => (hT.2.2.2 j hj).2
  have hT1 : ∀ M1, FrS X4 M M1 → RT M1 n tp := fun M1 F => hT.fr F (by unfold X4; omega) (fun j => by unfold X4; omega)
  have stop : ∀ q M1, q ≤ n → FrS X4 M M1 → m_i M1 206 4 = nI q → ¬ (q < n ∧ isb (tp q) = true) → (∀ M', FrS X4 M M' → m_i M' 206 4 = nI (rn n tp isb q) → Φ (.inl none) M') → Ev l G d mRe_blanks 0 [.ref 206] [] M1 bc bs Φ := fun q M1 hq F h4 hne h => by
    refine bRe_blanks_0 _ _ ⟨(hT1 M1 F).1.c, CallVC.cps0 (by omega) ?_⟩
    rw [h4]
    refine ct_byteAt M1 (hT1 M1 F) q (by omega) ?_
    refine bRe_blanks_8 _ _ _ ⟨fun _ => h M1 F ?_, fun z => absurd ?_ hne⟩
    · rw [h4]
      by_cases y : q < n
      · rw [rn_no (fun k => hne ⟨y, k⟩)]
      · rw [rn_end (by omega)]
    · have := (bt_b (p := q) hb (c := 32) (by omega)).mp z
      exact ⟨this.1, decide_eq_true this.2⟩
  refine rn_ind (n := n) (tp := tp) (q := isb) (fun q hq M1 hqn F h4 h => ?_) (fun q hq hne M1 hqn F h4 h => ?_) (fun q hq hy ih M1 hqn F h4 h => ?_)
  · exact stop q M1 hqn F h4 (by omega) h
  · exact stop q M1 hqn F h4 (fun k => hne k.2) h
  · refine bRe_blanks_0 _ _ ⟨(hT1 M1 F).1.c, CallVC.cps0 (by omega) ?_⟩
    rw [h4]
    refine ct_byteAt M1 (hT1 M1 F) q (by omega) ?_
    refine bRe_blanks_8 _ _ _ ⟨fun z => absurd ((bt_b (p := q) hb (c := 32) (by omega)).mpr ⟨hq, isb_lt hy⟩) z, fun _ => ⟨(hT1 M1 F).1.c, ?_⟩⟩
    rw [h4, nI_1]
    refine ih _ hq (F.tr (FrS.si (P := X4) ⟨rfl, rfl⟩ _)) (by rw [m_i_si, if_pos ⟨rfl, rfl⟩]) (fun M' F' e => h M' F' ?_)
    rw [e, rn_yes hq hy]
end RLX
