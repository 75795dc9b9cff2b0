/-! ===== the reference: CLAUSES, row ===== -/
section RRW
variable {l : Launch} {G : Gx} {d : Nat} {bc bs : Nat} {Φ : OutV → Mm → Prop}
theorem cl_150 (M M1 : Mm) {n : Nat} {tp : Nat → Nat} {p np k w : Nat} {F : Nat → Nat → Nat} (u2 u3 : Value) (hw : 2 ≤ w ∧ w ≤ 5) (F1 : FrS XPs M M1) (hA : RA M1 n tp p) (hP : RPp M1 np F) (h7 : m_i M1 206 7 = nI k) (hk : k ≤ 40) (hd : 3 < d) (hwd : wd n tp p = w) (hlim : ¬ (40 ≤ k ∨ (w = 2 ∧ 8 ≤ np))) (h : RwPost M n tp (k + 1) (clS n tp k p np F) Φ) : Ev l G d mRe_clause 150 [.ref 206, .int (nI (w - 2)), u2, u3] [] M1 bc bs Φ := by
  have n8 := hP.2.1
  have hT : clS n tp k p np F = ecS n tp (if w = 2 then perS n tp (nx n tp p) np F else if w = 3 then knoS n tp (nx n tp p) np F else habS n tp w (nx n tp p) np F) := by
    unfold clS
    rw [hwd, if_pos (by omega), if_neg hlim]
  obtain ⟨eo, en⟩ := cl_end (l := l) (G := G) (bc := bc) (bs := bs) (d := d) M (by omega) h
  refine bRe_clause_150 _ _ _ _ _ ⟨hA.1.1.c, fun _ => CallVC.cps0 (by omega) (ct_skipWord M1 hA (by omega) (fun M2 F2 hA2 => ?_)), fun z => absurd hA.2.2.2 z⟩
  rw [← tk2_te (wd_tk hwd (by omega))] at hA2
  have hP2 := hP.x4 F2
  have h72 : m_i M2 206 7 = nI k := by rw [X4_5 F2 (by omega)]; exact h7
  refine bRe_clause_162 _ _ _ _ _ ⟨hA2.1.1.c, ?_⟩
  rw [h72, nI_1]
  have F3 : FrS (fun a j => a = 206 ∧ j = 7) M2 (m_si M2 206 7 (nI (k + 1))) := FrS.si (P := fun a j => a = 206 ∧ j = 7) ⟨rfl, rfl⟩ _
  have v7 : m_i (m_si M2 206 7 (nI (k + 1))) 206 7 = nI (k + 1) := by rw [m_i_si, if_pos ⟨rfl, rfl⟩]
  generalize m_si M2 206 7 (nI (k + 1)) = M3 at F3 v7 ⊢
  have F13 : FrS XPs M M3 := (F1.tr (F2.mono X4_Ps)).tr (F3.mono (fun a j k => by unfold XPs; omega))
  have hA3 : RA M3 n tp (te n tp p) := hA2.fr F3 (by omega) (fun j => by omega) (by omega) (by rw [F3.1 _ _ (by omega)]; exact hA2.2.1) hA2.2.2.1
  have hP3 : RPp M3 np F := hP2.fr F3 (by omega) (fun p j hp => by omega)
  rw [hP3.1]
  have e0 : nI (w - 2) = 0 ↔ w = 2 := by rw [show (0 : Int32) = nI 0 from rfl, nI_eq (by omega) (by omega)]; omega
  refine ⟨fun z => ?_, fun z => ?_⟩
  · have w2 : ¬ w = 2 := fun y => z (e0.mpr y)
    rw [if_neg w2] at hT
    by_cases w3 : w = 3
    · rw [if_pos w3] at hT
      rw [w3]
      exact cl_kno M M3 u2 u3 F13 hA3 hP3 v7 (by omega) hT h
    · rw [if_neg w3] at hT
      exact cl_hab M M3 (w := w) (by omega) u2 u3 F13 hA3 hP3 v7 (by omega) hT h
  · have w2 := e0.mp z
    rw [if_pos w2] at hT
    refine CallVC.cps0 (by omega) (ct_readsPerson M3 hA3 hP3 v7 (by omega) (by omega) ⟨fun e M4 q4 F4 hA4 hq4 hP4 h74 => bRe_clause_180 _ _ _ _ _ (eo M4 q4 _ _ _ _ _ (F13.tr F4) hA4 hP4 h74 ?_), fun e M4 q4 F4 hF => bRe_clause_180 _ _ _ _ _ (en M4 q4 _ _ _ _ _ ((F13.mono XPs_P).tr F4) hF ?_ ?_)⟩)
    · rw [hT, hq4]
      show ecS n tp (perS n tp (rn n tp isb (te n tp p)) np F) = _
      exact congrArg (ecS n tp) (Prod.ext e rfl)
    · rw [hT]
      show (ecS n tp (perS n tp (rn n tp isb (te n tp p)) np F)).1 = _
      unfold ecS
      rw [if_neg e]
    · rw [hT]
      show (ecS n tp (perS n tp (rn n tp isb (te n tp p)) np F)).2.1 = _
      unfold ecS
      rw [if_neg e]
theorem cl_lim (M M1 : Mm) {n : Nat} {tp : Nat → Nat} {p np k w : Nat} {F : Nat → Nat → Nat} (x1 : Int32) (u2 u3 : Value) (hw : 2 ≤ w ∧ w ≤ 5) (F1 : FrS XPs M M1) (hA : RA M1 n tp p) (hd : 3 < d) (hwd : wd n tp p = w) (hlim : 40 ≤ k ∨ (w = 2 ∧ 8 ≤ np)) (h : RwPost M n tp (k + 1) (clS n tp k p np F) Φ) : Ev l G d mRe_clause 141 [.ref 206, .int x1, u2, u3] [] M1 bc bs Φ := by
  have hT : clS n tp k p np F = (3, p, np, F) := by
    unfold clS
    rw [hwd, if_pos (by omega), if_pos hlim]
  rw [hT] at h
  refine bRe_clause_141 _ _ _ _ _ ⟨hA.1.1.c, CallVC.cps0 (by omega) ?_⟩
  rw [hA.2.1]
  exact ct_wrong M1 hA 3 p (by omega) (fun M2 F2 hF => bRe_clause_150 _ _ _ _ _ ⟨hF.1.1.c, fun z => absurd z hF.ne, fun _ => h.2 (by show ¬ 3 = 0; omega) M2 _ ((F1.mono XPs_P).tr (F2.mono (fun a j k => by unfold XP; omega))) hF⟩)
theorem ct_clause (M : Mm) {n : Nat} {tp : Nat → Nat} {p np k : Nat} {F : Nat → Nat → Nat} (hA : RA M n tp p) (hp : rn n tp isb p = p) (hP : RPp M np F) (h7 : m_i M 206 7 = nI k) (hk : k ≤ 40) (hd : 3 < d) (h : RwPost M n tp (k + 1) (clS n tp k p np F) Φ) : Ct l G d mRe_clause bc bs [.ref 206] M Φ := by
  have n8 := hP.2.1
  have e40 : nI k = 40 ↔ 40 ≤ k := by rw [show (40 : Int32) = nI 40 from rfl, nI_eq (by omega) (by omega)]; omega
  have e8 : nI np = 8 ↔ 8 ≤ np := by rw [show (8 : Int32) = nI 8 from rfl, nI_eq (by omega) (by omega)]; omega
  refine Ct.of rfl (Nat.le_of_ble_eq_true rfl) ?_
  refine bRe_clause_0 _ _ (CallVC.cps0 (by omega) (ct_five M _ _ _ _ _ (bRe_clause_16 _ _ _ _ _ _ _ _ ⟨hA.1.1.c, CallVC.cps0 (by omega) (ct_isWordP M hA hp (w := 2) (by omega) (by decide +kernel) (by omega) (fun M1 F1 hA1 => ?_))⟩)))
  have hP1 := hP.x4 F1
  have h71 : m_i M1 206 7 = nI k := by rw [X4_5 F1 (by omega)]; exact h7
  refine bRe_clause_24 _ _ _ _ _ _ ⟨fun z => ?_, fun z => ⟨hA1.1.1.c, ?_⟩⟩
  rotate_left
  · have e := ite10.2 z
    rw [h71, hP1.1, e40, e8]
    exact ⟨fun y => cl_lim M M1 (w := 2) _ _ _ (by omega) (F1.mono X4_Ps) hA1 hd e (Or.inl y) h, fun y => ⟨fun x => cl_150 M M1 (w := 2) _ _ (by omega) (F1.mono X4_Ps) hA1 hP1 h71 hk hd e (by omega) h, fun x => cl_lim M M1 (w := 2) _ _ _ (by omega) (F1.mono X4_Ps) hA1 hd e (Or.inr ⟨rfl, x⟩) h⟩⟩
  have n2 := ite10.1 z
  refine CallVC.cps0 (by omega) (ct_five M1 _ _ _ _ _ (bRe_clause_45 _ _ _ _ _ _ _ ⟨hA1.1.1.c, CallVC.cps0 (by omega) (ct_isWordP M1 hA1 hp (w := 3) (by omega) (by decide +kernel) (by omega) (fun M2 F2 hA2 => ?_))⟩))
  have hP2 := hP1.x4 F2
  have h72 : m_i M2 206 7 = nI k := by rw [X4_5 F2 (by omega)]; exact h71
  have F12 := F1.tr F2
  refine bRe_clause_48 _ _ _ _ _ _ ⟨fun z => ?_, fun z => ⟨hA2.1.1.c, ?_⟩⟩
  rotate_left
  · have e := ite10.2 z
    rw [h72, e40]
    exact ⟨fun y => cl_lim M M2 (w := 3) _ _ _ (by omega) (F12.mono X4_Ps) hA2 hd e (Or.inl y) h, fun y => cl_150 M M2 (w := 3) _ _ (by omega) (F12.mono X4_Ps) hA2 hP2 h72 hk hd e (by omega) h⟩
  have n3 := ite10.1 z
  clear F2
  refine CallVC.cps0 (by omega) (ct_five M2 _ _ _ _ _ (bRe_clause_66 _ _ _ _ _ _ _ ⟨hA2.1.1.c, CallVC.cps0 (by omega) (ct_isWordP M2 hA2 hp (w := 4) (by omega) (by decide +kernel) (by omega) (fun M3 F3 hA3 => ?_))⟩))
  have hP3 := hP2.x4 F3
  have h73 : m_i M3 206 7 = nI k := by rw [X4_5 F3 (by omega)]; exact h72
  have F13 := F12.tr F3
  refine bRe_clause_69 _ _ _ _ _ _ ⟨fun z => ?_, fun z => ⟨hA3.1.1.c, ?_⟩⟩
  rotate_left
  · have e := ite10.2 z
    rw [h73, e40]
    exact ⟨fun y => cl_lim M M3 (w := 4) _ _ _ (by omega) (F13.mono X4_Ps) hA3 hd e (Or.inl y) h, fun y => cl_150 M M3 (w := 4) _ _ (by omega) (F13.mono X4_Ps) hA3 hP3 h73 hk hd e (by omega) h⟩
  have n4 := ite10.1 z
  refine CallVC.cps0 (by omega) (ct_five M3 _ _ _ _ _ (bRe_clause_90 _ _ _ _ _ _ _ ⟨hA3.1.1.c, CallVC.cps0 (by omega) (ct_isWordP M3 hA3 hp (w := 5) (by omega) (by decide +kernel) (by omega) (fun M4 F4 hA4 => ?_))⟩))
  have hP4 := hP3.x4 F4
  have h74 : m_i M4 206 7 = nI k := by rw [X4_5 F4 (by omega)]; exact h73
  have F14 := F13.tr F4
  refine bRe_clause_93 _ _ _ _ _ _ ⟨fun z => ⟨hA4.1.1.c, CallVC.cps0 (by omega) ?_⟩, fun z => ⟨hA4.1.1.c, ?_⟩⟩
  · have n5 := ite10.1 z
    have hT : clS n tp k p np F = (1, p, np, F) := by
      unfold clS
      rw [if_neg (by omega)]
    rw [hT] at h
    rw [hA4.2.1]
    exact ct_wrong M4 hA4 1 p (by omega) (fun M5 F5 hF => bRe_clause_116 _ _ _ _ _ (bRe_clause_150 _ _ _ _ _ ⟨hF.1.1.c, fun z => absurd z hF.ne, fun _ => h.2 (by show ¬ 1 = 0; omega) M5 _ ((F14.mono X4_P).tr (F5.mono (fun a j k => by unfold XP; omega))) hF⟩))
  · have e := ite10.2 z
    rw [h74, e40]
    exact ⟨fun y => cl_lim M M4 (w := 5) _ _ _ (by omega) (F14.mono X4_Ps) hA4 hd e (Or.inl y) h, fun y => cl_150 M M4 (w := 5) _ _ (by omega) (F14.mono X4_Ps) hA4 hP4 h74 hk hd e (by omega) h⟩
end RRW
