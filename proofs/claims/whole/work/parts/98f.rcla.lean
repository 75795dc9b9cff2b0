/-! ===== the reference reads a CLAUSE ===== -/
theorem X4_5 {M M' : Mm} {j : Nat} (F : FrS X4 M M') (hj : ¬ j = 4) : m_i M' 206 j = m_i M 206 j := F.1 _ _ (fun z => hj z.2)
section RCL
variable {l : Launch} {G : Gx} {d : Nat} {bc bs : Nat} {Φ : OutV → Mm → Prop}
theorem ct_isWordP (M : Mm) {n : Nat} {tp : Nat → Nat} {p : Nat} (hA : RA M n tp p) (hp : rn n tp isb p = p) {w : Nat} (hw : 2 ≤ w ∧ w ≤ 23) {x : Int64} (hx : x = lN (kvL (wTx w))) (hd : 2 < d) (h : ∀ M', FrS X4 M M' → RA M' n tp p → Φ (.inl (some (.int (if wd n tp p = w then 1 else 0)))) M') : Ct l G d mRe_isWord bc bs [.ref 206, .long x] M Φ :=
  ct_isWord M hA hw hx hd (fun M' F hA' => by rw [hp] at hA' ⊢; exact h M' F hA')
theorem cl_end (M : Mm) {n : Nat} {tp : Nat → Nat} {T : RR} {k' : Nat} (hd : 2 < d) (h : RwPost M n tp k' T Φ) :
    (∀ M1 q1 np F x1 u2 u3, FrS XPs M M1 → RA M1 n tp q1 → RPp M1 np F → m_i M1 206 7 = nI k' → T = ecS n tp (0, rn n tp isb q1, np, F) → Ev l G d mRe_clause 305 [.ref 206, .int x1, u2, u3] [] M1 bc bs Φ) ∧
    (∀ M1 q1 fc fp x1 u2 u3, FrS XP M M1 → RFt M1 n tp fc fp q1 → T.1 = fc → T.2.1 = fp → Ev l G d mRe_clause 305 [.ref 206, .int x1, u2, u3] [] M1 bc bs Φ) := by
  refine ⟨fun M1 q1 np F x1 u2 u3 F1 hA1 hP1 h7 hT => ?_, fun M1 q1 fc fp x1 u2 u3 F1 hF e1 e2 => ?_⟩
  · subst hT
    refine bRe_clause_305 _ _ _ _ _ ⟨hA1.1.1.c, CallVC.cps0 (by omega) (ct_sign M1 hA1 (c := 59) (by unfold sgn; omega) (by omega) (fun e M2 F2 hA2 => bRe_clause_311 _ _ _ _ _ ?_) (fun e M2 F2 hF => bRe_clause_311 _ _ _ _ _ ?_))⟩
    · unfold ecS at h
      rw [if_pos rfl, if_pos e] at h
      exact h.1 rfl M2 _ (F1.tr (F2.mono X4_Ps)) hA2 rfl (hP1.x4 F2) (by rw [X4_5 F2 (by omega)]; exact h7)
    · unfold ecS at h
      rw [if_pos rfl, if_neg e] at h
      exact h.2 (by show ¬ 1 = 0; omega) M2 _ ((F1.mono XPs_P).tr (F2.mono X46_P)) hF
  · exact bRe_clause_305 _ _ _ _ _ ⟨hF.1.1.c, CallVC.cps0 (by omega) (ct_signF M1 hF _ (bRe_clause_311 _ _ _ _ _ (h.2 (by rw [e1]; have := hF.2.2.1; omega) M1 q1 F1 (by rw [e1, e2]; exact hF))))⟩
theorem cl_kno (M M1 : Mm) {n : Nat} {tp : Nat → Nat} {T : RR} {k' q np : Nat} {F : Nat → Nat → Nat} (u2 u3 : Value) (F1 : FrS XPs M M1) (hA : RA M1 n tp q) (hP : RPp M1 np F) (h7 : m_i M1 206 7 = nI k') (hd : 2 < d) (hT : T = ecS n tp (knoS n tp (rn n tp isb q) np F)) (h : RwPost M n tp k' T Φ) : CallVC l G d mRe_clause 195 [.ref 206, .int 1, u2, u3] [] mRe_numberHere [.ref 206, .int 0, .int (nI np - 1), .int (-1)] M1 bc bs Φ := by
  obtain ⟨eo, en⟩ := cl_end (l := l) (G := G) (bc := bc) (bs := bs) M hd h
  have n8 := hP.2.1
  unfold knoS at hT
  refine CallVC.cps0 (by omega) (ct_numW M1 hA 0 np _ _ rfl (by omega) (np_toInt n8) (by omega) (by omega) (fun ok M2 F2 hA2 => ?_) (fun no M2 F2 hF => ?_))
  · rw [if_pos ok] at hT
    have hP2 := hP.x4 F2
    have F12 := F1.tr (F2.mono X4_Ps)
    have h72 : m_i M2 206 7 = nI k' := by rw [X4_5 F2 (by omega)]; exact h7
    generalize hp1 : rn n tp isb q = p1 at ok hA2 hT ⊢
    have ha : cvl n tp p1 < np := ok.2.2
    refine bRe_clause_195 _ _ _ _ _ _ ⟨fun z => absurd rfl z, fun _ => ⟨hA2.1.1.c, ?_⟩⟩
    rw [hP2.1]
    refine CallVC.cps0 (by omega) (ct_numberHere M2 hA2 0 np (cvl n tp p1) _ _ _ rfl (by omega) (np_toInt n8) (by omega) (fun v hv => nI_eq (by omega) (by omega)) (by omega) (fun ok2 M3 F3 hA3 => ?_) (fun no M3 F3 hF => ?_))
    · have e2 : rn n tp isb (te n tp p1) = nx n tp p1 := rfl
      rw [e2] at ok2 hA3
      rw [if_neg (fun z => ok2.2 z.2), if_pos ok2.1] at hT
      have hP3 := hP2.x4 F3
      have F13 := F12.tr (F3.mono X4_Ps)
      have h73 : m_i M3 206 7 = nI k' := by rw [X4_5 F3 (by omega)]; exact h72
      rw [e2]
      have hb : cvl n tp (nx n tp p1) < np := ok2.1.2.2
      have hab := ok2.2
      generalize cvl n tp p1 = a at ha hT hab ⊢
      generalize cvl n tp (nx n tp p1) = b at hb hT hab ⊢
      have hS3 := hA3.1.1
      have ga := hP3.2.2.1 a 7 ha (by omega)
      have gb := hP3.2.2.1 b 7 hb (by omega)
      obtain ⟨ba1, ba2⟩ := bit_set (p := b) (hP3.2.2.2 a ha) (by omega)
      obtain ⟨bb1, bb2⟩ := bit_set (p := a) (hP3.2.2.2 b hb) (by omega)
      refine bRe_clause_213 _ _ _ _ _ _ (bRe_clause_233 _ _ _ _ _ _ ⟨hS3.c, fun z => absurd hA3.2.2.2 z, fun _ => ⟨fun z => absurd rfl z, fun _ => ?_⟩⟩)
      simp (disch := omega) only [hS3.c, hS3.r_fed, hS3.s_fed, hS3.r_rKind, hS3.s_rKind, hS3.r_kind, hS3.s_kind, hS3.r_rNum, hS3.s_rNum, hS3.r_num, hS3.s_num, hS3.r_rLong, hS3.s_rLong, hS3.r_cLong, hS3.s_cLong, hS3.r_stack, hS3.s_stack, hS3.r_names, hS3.s_names, hS3.r_row, hS3.s_row, hS3.r_ruleOf, hS3.s_ruleOf, hS3.r_ways, hS3.s_ways, hS3.r_cWho, hS3.s_cWho, hS3.r_cMin, hS3.s_cMin, hS3.r_cOff, hS3.s_cOff, hS3.r_cTh, hS3.s_cTh, hS3.r_cEnd, hS3.s_cEnd, hS3.r_hds, hS3.s_hds, hS3.r_ends, hS3.s_ends, hS3.r_there, hS3.s_there, hS3.r_offd, hS3.s_offd, hS3.r_had, hS3.s_had, hS3.r_rPer, hS3.s_rPer, hS3.r_rP, hS3.s_rP, hS3.r_per, hS3.s_per, hS3.r_pr, hS3.s_pr, hS3.r_rCode, hS3.s_rCode, hS3.r_rC, hS3.s_rC, hS3.r_code, hS3.s_code, hS3.r_cd, hS3.s_cd, hS3.r_kept, hS3.s_kept, hS3.r_kp, hS3.s_kp, hS3.r_holder, hS3.s_holder, hS3.r_hd, hS3.s_hd, hS3.r_pass, hS3.s_pass, hS3.r_ps, hS3.s_ps, hS3.r_debt, hS3.s_debt, hS3.r_db, hS3.s_db, hS3.r_endBy, hS3.s_endBy, hS3.r_eb, hS3.s_eb, vpT, vpk0, clk0, vpk1, clk1, vpk2, clk2, vpk3, clk3, vpk4, clk4, vpk5, clk5, vpk6, clk6, vpk7, clk7, vpk8, clk8, vpk9, clk9, nI_clamp, nI_1, true_and, ga]
      rw [ba1, m_i_si, if_neg (by omega), gb, bb1]
      refine bRe_clause_276 _ _ _ _ _ ?_
      have F4 : FrS (fun x _ => 209 ≤ x ∧ x < 209 + 8) M3 (m_si (m_si M3 (209 + a) 7 (nI (F a 7 ||| 2 ^ b))) (209 + b) 7 (nI (F b 7 ||| 2 ^ a))) := (FrS.si (P := fun x _ => 209 ≤ x ∧ x < 209 + 8) (by omega) _).tr (FrS.si (by omega) _)
      refine eo _ _ np (knoF F a b) _ _ _ (F13.tr (F4.mono (fun a j k => Or.inr k))) (hA3.fr F4 (by omega) (fun j => by omega) (by omega) (by rw [F4.1 _ _ (by omega)]; exact hA3.2.1) hA3.2.2.1) ⟨by rw [F4.1 _ _ (by omega)]; exact hP3.1, n8, fun p w hp hw => ?_, fun p hp => ?_⟩ (by rw [F4.1 _ _ (by omega)]; exact h73) hT
      · unfold knoF up2
        rw [m_i_si]
        by_cases zb : p = b ∧ w = 7
        · rw [if_pos ⟨by omega, by omega⟩, if_pos zb, if_neg (by omega)]
        · rw [if_neg (by omega), if_neg zb, m_i_si]
          by_cases za : p = a ∧ w = 7
          · rw [if_pos ⟨by omega, by omega⟩, if_pos za]
          · rw [if_neg (by omega), if_neg za]
            exact hP3.2.2.1 p w hp hw
      · unfold knoF up2
        by_cases zb : p = b
        · rw [if_pos ⟨zb, rfl⟩, if_neg (by omega)]; exact bb2
        · rw [if_neg (fun z => zb z.1)]
          by_cases za : p = a
          · rw [if_pos ⟨za, rfl⟩]; exact ba2
          · rw [if_neg (fun z => za z.1)]; exact hP3.2.2.2 p hp
    · have e2 : rn n tp isb (te n tp p1) = nx n tp p1 := rfl
      rw [e2] at no hF
      have hc : T.1 = fcd n tp (nx n tp p1) ∧ T.2.1 = nx n tp p1 := by
        by_cases z : tk n tp (nx n tp p1) = 1 ∧ cvl n tp (nx n tp p1) = cvl n tp p1
        · rw [if_pos z] at hT
          rw [hT]
          unfold ecS fcd
          rw [if_neg (by show ¬ 2 = 0; omega), if_pos z.1]
          exact ⟨rfl, rfl⟩
        · rw [if_neg z, if_neg (fun y => no ⟨y, z⟩)] at hT
          rw [hT]
          unfold ecS
          rw [if_neg (fcd_ne _ _ _)]
          exact ⟨rfl, rfl⟩
      have en' := en M3 _ _ _ 1 (.int (nI (cvl n tp p1))) (.int 0) ((F12.mono XPs_P).tr (F3.mono X46_P)) hF hc.1 hc.2
      exact bRe_clause_213 _ _ _ _ _ _ (bRe_clause_233 _ _ _ _ _ _ ⟨hF.1.1.c, fun _ => bRe_clause_279 _ _ _ _ _ ⟨hF.1.1.c, fun _ => en', fun z => absurd z hF.ne⟩, fun z => absurd z hF.ne⟩)
  · rw [if_neg no] at hT
    have hc : T.1 = fcd n tp (rn n tp isb q) ∧ T.2.1 = rn n tp isb q := by
      rw [hT]
      unfold ecS
      rw [if_neg (fcd_ne _ _ _)]
      exact ⟨rfl, rfl⟩
    have en' := en M2 _ _ _ 1 (.int 0) (.int 0) ((F1.mono XPs_P).tr (F2.mono X46_P)) hF hc.1 hc.2
    refine bRe_clause_195 _ _ _ _ _ _ ⟨fun z => absurd rfl z, fun _ => ⟨hF.1.1.c, CallVC.cps0 (by omega) (ct_numF M2 hF _ _ _ ?_)⟩⟩
    exact bRe_clause_213 _ _ _ _ _ _ (bRe_clause_233 _ _ _ _ _ _ ⟨hF.1.1.c, fun _ => bRe_clause_279 _ _ _ _ _ ⟨hF.1.1.c, fun _ => en', fun z => absurd z hF.ne⟩, fun z => absurd z hF.ne⟩)
theorem cl_hab (M M1 : Mm) {n : Nat} {tp : Nat → Nat} {T : RR} {k' q np w : Nat} {F : Nat → Nat → Nat} (hw : w = 4 ∨ w = 5) (u2 u3 : Value) (F1 : FrS XPs M M1) (hA : RA M1 n tp q) (hP : RPp M1 np F) (h7 : m_i M1 206 7 = nI k') (hd : 2 < d) (hT : T = ecS n tp (habS n tp w (rn n tp isb q) np F)) (h : RwPost M n tp k' T Φ) : CallVC l G d mRe_clause 195 [.ref 206, .int (nI (w - 2)), u2, u3] [] mRe_numberHere [.ref 206, .int 0, .int (nI np - 1), .int (-1)] M1 bc bs Φ := by
  obtain ⟨eo, en⟩ := cl_end (l := l) (G := G) (bc := bc) (bs := bs) M hd h
  have n8 := hP.2.1
  have x1n : ¬ nI (w - 2) = 1 := fun z => by have := (nI_eq (a := w - 2) (b := 1) (by omega) (by omega)).mp z; omega
  unfold habS at hT
  refine CallVC.cps0 (by omega) (ct_numW M1 hA 0 np _ _ rfl (by omega) (np_toInt n8) (by omega) (by omega) (fun ok M2 F2 hA2 => ?_) (fun no M2 F2 hF => ?_))
  · rw [if_pos ok] at hT
    have hP2 := hP.x4 F2
    have F12 := F1.tr (F2.mono X4_Ps)
    have h72 : m_i M2 206 7 = nI k' := by rw [X4_5 F2 (by omega)]; exact h7
    generalize hp1 : rn n tp isb q = p1 at ok hA2 hT ⊢
    have ha : cvl n tp p1 < np := ok.2.2
    have e2 : rn n tp isb (te n tp p1) = nx n tp p1 := rfl
    have bad : ∀ M3 q3, FrS X46 M2 M3 → RFt M3 n tp (fcd n tp (nx n tp p1)) (nx n tp p1) q3 → ¬ nOK n tp 0 (if w = 4 then 5 else 100) (nx n tp p1) → Ev l G d mRe_clause 233 [.ref 206, .int (nI (w - 2)), .int (nI (cvl n tp p1)), u3] [.int 0] M3 bc bs Φ := fun M3 q3 F3 hF no => by
      rw [if_neg no] at hT
      have hc : T.1 = fcd n tp (nx n tp p1) ∧ T.2.1 = nx n tp p1 := by
        rw [hT]
        unfold ecS
        rw [if_neg (fcd_ne _ _ _)]
        exact ⟨rfl, rfl⟩
      have en' := en M3 _ _ _ (nI (w - 2)) (.int (nI (cvl n tp p1))) (.int 0) ((F12.mono XPs_P).tr (F3.mono X46_P)) hF hc.1 hc.2
      exact bRe_clause_233 _ _ _ _ _ _ ⟨hF.1.1.c, fun _ => bRe_clause_279 _ _ _ _ _ ⟨hF.1.1.c, fun _ => en', fun z => absurd z hF.ne⟩, fun z => absurd z hF.ne⟩
    have good : ∀ M3, FrS X4 M2 M3 → RA M3 n tp (te n tp (nx n tp p1)) → nOK n tp 0 (if w = 4 then 5 else 100) (nx n tp p1) → Ev l G d mRe_clause 233 [.ref 206, .int (nI (w - 2)), .int (nI (cvl n tp p1)), u3] [.int (nI (cvl n tp (nx n tp p1)))] M3 bc bs Φ := fun M3 F3 hA3 ok2 => by
      rw [if_pos ok2] at hT
      have hP3 := hP2.x4 F3
      have F13 := F12.tr (F3.mono X4_Ps)
      have h73 : m_i M3 206 7 = nI k' := by rw [X4_5 F3 (by omega)]; exact h72
      generalize cvl n tp p1 = a at ha hT ⊢
      generalize cvl n tp (nx n tp p1) = b at hT ⊢
      have hS3 := hA3.1.1
      have fin : ∀ s, s = (if w = 4 then 5 else 6) → Ev l G d mRe_clause 305 [.ref 206, .int (nI (w - 2)), .int (nI a), .int (nI b)] [] (m_si M3 (209 + a) s (nI b)) bc bs Φ := fun s hs => by
        have F4 : FrS (fun x j => x = 209 + a ∧ j = s) M3 (m_si M3 (209 + a) s (nI b)) := FrS.si (P := fun x j => x = 209 + a ∧ j = s) ⟨rfl, rfl⟩ _
        have hs7 : ¬ s = 7 := by rw [hs]; split <;> omega
        rw [← hs] at hT
        refine eo _ _ np (up2 F a s b) _ _ _ (F13.tr (F4.mono (fun a j k => by unfold XPs; omega))) (hA3.fr F4 (by omega) (fun j => by omega) (by omega) (by rw [F4.1 _ _ (by omega)]; exact hA3.2.1) hA3.2.2.1) ⟨by rw [F4.1 _ _ (by omega)]; exact hP3.1, n8, fun p v hp hv => ?_, fun p hp => ?_⟩ (by rw [F4.1 _ _ (by omega)]; exact h73) hT
        · unfold up2
          rw [m_i_si]
          by_cases za : p = a ∧ v = s
          · rw [if_pos ⟨by omega, za.2⟩, if_pos za]
          · rw [if_neg (by omega), if_neg za]
            exact hP3.2.2.1 p v hp hv
        · unfold up2
          rw [if_neg (fun z => hs7 z.2.symm)]
          exact hP3.2.2.2 p hp
      refine bRe_clause_233 _ _ _ _ _ _ ⟨hS3.c, fun z => absurd hA3.2.2.2 z, fun _ => ⟨fun _ => bRe_clause_279 _ _ _ _ _ ⟨hS3.c, fun z => absurd hA3.2.2.2 z, fun _ => ?_⟩, fun z => absurd z x1n⟩⟩
      simp (disch := omega) only [hS3.c, hS3.r_fed, hS3.s_fed, hS3.r_rKind, hS3.s_rKind, hS3.r_kind, hS3.s_kind, hS3.r_rNum, hS3.s_rNum, hS3.r_num, hS3.s_num, hS3.r_rLong, hS3.s_rLong, hS3.r_cLong, hS3.s_cLong, hS3.r_stack, hS3.s_stack, hS3.r_names, hS3.s_names, hS3.r_row, hS3.s_row, hS3.r_ruleOf, hS3.s_ruleOf, hS3.r_ways, hS3.s_ways, hS3.r_cWho, hS3.s_cWho, hS3.r_cMin, hS3.s_cMin, hS3.r_cOff, hS3.s_cOff, hS3.r_cTh, hS3.s_cTh, hS3.r_cEnd, hS3.s_cEnd, hS3.r_hds, hS3.s_hds, hS3.r_ends, hS3.s_ends, hS3.r_there, hS3.s_there, hS3.r_offd, hS3.s_offd, hS3.r_had, hS3.s_had, hS3.r_rPer, hS3.s_rPer, hS3.r_rP, hS3.s_rP, hS3.r_per, hS3.s_per, hS3.r_pr, hS3.s_pr, hS3.r_rCode, hS3.s_rCode, hS3.r_rC, hS3.s_rC, hS3.r_code, hS3.s_code, hS3.r_cd, hS3.s_cd, hS3.r_kept, hS3.s_kept, hS3.r_kp, hS3.s_kp, hS3.r_holder, hS3.s_holder, hS3.r_hd, hS3.s_hd, hS3.r_pass, hS3.s_pass, hS3.r_ps, hS3.s_ps, hS3.r_debt, hS3.s_debt, hS3.r_db, hS3.s_db, hS3.r_endBy, hS3.s_endBy, hS3.r_eb, hS3.s_eb, vpT, vpk0, clk0, vpk1, clk1, vpk2, clk2, vpk3, clk3, vpk4, clk4, vpk5, clk5, vpk6, clk6, vpk7, clk7, vpk8, clk8, vpk9, clk9, nI_clamp, nI_1, true_and, ha]
      refine ⟨fun z => fin 6 ?_, fun z => fin 5 ?_⟩
      · rcases hw with e | e
        · subst e; exact absurd rfl z
        · subst e; rfl
      · rcases hw with e | e
        · subst e; rfl
        · subst e; exact absurd z (by decide)
    refine bRe_clause_195 _ _ _ _ _ _ ⟨fun _ => ⟨fun z => ⟨hA2.1.1.c, ?_⟩, fun z => ⟨hA2.1.1.c, ?_⟩⟩, fun z => absurd z x1n⟩
    · have e5 : w = 5 := by
        rcases hw with e | e
        · subst e; exact absurd rfl z
        · exact e
      have eh : (if w = 4 then 5 else 100) = 100 := if_neg (by omega)
      rw [eh] at good bad
      exact CallVC.cps0 (by omega) (ct_numW M2 hA2 0 100 _ _ rfl (by omega) rfl (by omega) (by omega) (fun ok2 M3 F3 hA3 => good M3 F3 hA3 ok2) (fun no M3 F3 hF => bad M3 _ F3 hF no))
    · have e4 : w = 4 := by
        rcases hw with e | e
        · exact e
        · subst e; exact absurd z (by decide)
      have eh : (if w = 4 then 5 else 100) = 5 := if_pos e4
      rw [eh] at good bad
      exact CallVC.cps0 (by omega) (ct_numW M2 hA2 0 5 _ _ rfl (by omega) rfl (by omega) (by omega) (fun ok2 M3 F3 hA3 => good M3 F3 hA3 ok2) (fun no M3 F3 hF => bad M3 _ F3 hF no))
  · rw [if_neg no] at hT
    have hc : T.1 = fcd n tp (rn n tp isb q) ∧ T.2.1 = rn n tp isb q := by
      rw [hT]
      unfold ecS
      rw [if_neg (fcd_ne _ _ _)]
      exact ⟨rfl, rfl⟩
    have en' := en M2 _ _ _ (nI (w - 2)) (.int 0) (.int 0) ((F1.mono XPs_P).tr (F2.mono X46_P)) hF hc.1 hc.2
    have k233 : Ev l G d mRe_clause 233 [.ref 206, .int (nI (w - 2)), .int 0, u3] [.int 0] M2 bc bs Φ := bRe_clause_233 _ _ _ _ _ _ ⟨hF.1.1.c, fun _ => bRe_clause_279 _ _ _ _ _ ⟨hF.1.1.c, fun _ => en', fun z => absurd z hF.ne⟩, fun z => absurd z hF.ne⟩
    exact bRe_clause_195 _ _ _ _ _ _ ⟨fun _ => ⟨fun _ => ⟨hF.1.1.c, CallVC.cps0 (by omega) (ct_numF M2 hF _ _ _ k233)⟩, fun _ => ⟨hF.1.1.c, CallVC.cps0 (by omega) (ct_numF M2 hF _ _ _ k233)⟩⟩, fun z => absurd z x1n⟩
end RCL
