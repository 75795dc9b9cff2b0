/-! ===== a row, as told ===== -/
def fcd (n : Nat) (tp : Nat → Nat) (p : Nat) : Nat := if tk n tp p = 1 then 2 else 1
def loN (w : Nat) : Nat := if w < 3 then 0 else 1
def hiN (w : Nat) : Nat := if w = 0 then 1000 else if w = 1 then 100 else if w = 2 then 10 else if w = 3 then 61 else 1000
theorem cLo_N : ∀ w, w < 5 → cLo w = nI (loN w) ∧ (cHi w).toInt = (hiN w : Int) - 1 := by decide +kernel
def upN (f : Nat → Nat) (k v : Nat) : Nat → Nat := fun j => if j = k then v else f j
def up2 (F : Nat → Nat → Nat) (a k v : Nat) : Nat → Nat → Nat := fun x j => if x = a ∧ j = k then v else F x j
/-- fault, place, PERSONS, their facts -/
abbrev RR : Type := Nat × Nat × Nat × (Nat → Nat → Nat)
def psF (n : Nat) (tp : Nat → Nat) : Nat → Nat → Nat → (Nat → Nat) → Nat × Nat × (Nat → Nat)
  | 0, _, p, f => (0, p, f)
  | c + 1, w, p, f => if nOK n tp (loN w) (hiN w) p then psF n tp c (w + 1) (nx n tp p) (upN f w (cvl n tp p)) else (fcd n tp p, p, f)
def perF (f : Nat → Nat) : Nat → Nat := fun w => if w = 5 then 0 else if w = 6 then 3 else if w = 7 then 0 else f w
def perS (n : Nat) (tp : Nat → Nat) (p np : Nat) (F : Nat → Nat → Nat) : RR := ((psF n tp 5 0 p (F np)).1, (psF n tp 5 0 p (F np)).2.1, np + 1, fun x => if x = np then perF (psF n tp 5 0 p (F np)).2.2 else F x)
def knoF (F : Nat → Nat → Nat) (a b : Nat) : Nat → Nat → Nat := up2 (up2 F a 7 (F a 7 ||| 2 ^ b)) b 7 (up2 F a 7 (F a 7 ||| 2 ^ b) b 7 ||| 2 ^ a)
def knoS (n : Nat) (tp : Nat → Nat) (p np : Nat) (F : Nat → Nat → Nat) : RR :=
  if nOK n tp 0 np p then (if tk n tp (nx n tp p) = 1 ∧ cvl n tp (nx n tp p) = cvl n tp p then (2, nx n tp p, np, F) else if nOK n tp 0 np (nx n tp p) then (0, nx n tp (nx n tp p), np, knoF F (cvl n tp p) (cvl n tp (nx n tp p))) else (fcd n tp (nx n tp p), nx n tp p, np, F)) else (fcd n tp p, p, np, F)
def habS (n : Nat) (tp : Nat → Nat) (w p np : Nat) (F : Nat → Nat → Nat) : RR :=
  if nOK n tp 0 np p then (if nOK n tp 0 (if w = 4 then 5 else 100) (nx n tp p) then (0, nx n tp (nx n tp p), np, up2 F (cvl n tp p) (if w = 4 then 5 else 6) (cvl n tp (nx n tp p))) else (fcd n tp (nx n tp p), nx n tp p, np, F)) else (fcd n tp p, p, np, F)
def ecS (n : Nat) (tp : Nat → Nat) (r : RR) : RR := if r.1 = 0 then (if sg n tp r.2.1 = 59 then (0, nx n tp r.2.1, r.2.2) else (1, r.2)) else r
def clS (n : Nat) (tp : Nat → Nat) (k p np : Nat) (F : Nat → Nat → Nat) : RR :=
  if wd n tp p = 2 ∨ wd n tp p = 3 ∨ wd n tp p = 4 ∨ wd n tp p = 5 then (if 40 ≤ k ∨ (wd n tp p = 2 ∧ 8 ≤ np) then (3, p, np, F) else
    ecS n tp (if wd n tp p = 2 then perS n tp (nx n tp p) np F else if wd n tp p = 3 then knoS n tp (nx n tp p) np F else habS n tp (wd n tp p) (nx n tp p) np F)) else (1, p, np, F)
def rwF (n : Nat) (tp : Nat → Nat) : Nat → Nat → Nat → Nat → (Nat → Nat → Nat) → RR
  | 0, _, p, np, F => (0, p, np, F)
  | c + 1, k, p, np, F => if tk n tp p = 0 then (0, p, np, F) else if (clS n tp k p np F).1 = 0 then rwF n tp c (k + 1) (clS n tp k p np F).2.1 (clS n tp k p np F).2.2.1 (clS n tp k p np F).2.2.2 else clS n tp k p np F
def rwS (n : Nat) (tp : Nat → Nat) : RR := rwF n tp 41 0 (rn n tp isb 0) 0 (fun _ _ => 0)
def XR (P : Nat) : Nat → Nat → Prop := fun a j => (P ≤ a ∧ a ≤ P + 2) ∨ XA a j
def XS (P : Nat) : Nat → Nat → Prop := fun a j => (P ≤ a ∧ a ≤ P + 2) ∨ XB a j
def PErd (M : Mm) (P np : Nat) (F : Nat → Nat → Nat) : Prop := PEok M P ∧ m_i M P 2 = nI np ∧ np ≤ 8 ∧ (∀ p w, p < np → w < 8 → m_i M (P + 1) (p * 8 + w) = nI (F p w)) ∧ (∀ p, p < np → F p 7 < 256) ∧ 106 < P ∧ P < 200
theorem PErd.fr {M M' : Mm} {P np : Nat} {F : Nat → Nat → Nat} {X : Nat → Nat → Prop} (h : PErd M P np F) (hF : FrS X M M') (hX : ∀ a j, X a j → a ≤ 106) : PErd M' P np F := by
  obtain ⟨h1, h2, h3, h4, h5, h6, h7⟩ := h
  refine ⟨h1.of hF.2.1 hF.2.2.2.1, by rw [hF.1 _ _ (fun z => by have := hX _ _ z; omega)]; exact h2, h3, fun p w hp hw => by rw [hF.1 _ _ (fun z => by have := hX _ _ z; omega)]; exact h4 p w hp hw, h5, h6, h7⟩
def RdPost (M : Mm) (P n : Nat) (tp : Nat → Nat) (sz : Nat) (r : RR) (Φ : OutV → Mm → Prop) : Prop :=
  (r.1 = 0 → ∀ M' i', FrS (XS P) M M' → TKS M' n tp sz i' → tb n tp i' = r.2.1 → PErd M' P r.2.2.1 r.2.2.2 → Φ (.inl (some (.int 1))) M') ∧ (¬ r.1 = 0 → ∀ M' i', FrS (XR P) M M' → TKS M' n tp sz i' → FLT M' r.1 r.2.1 → Φ (.inl (some (.int 0))) M')
theorem XA_R {P : Nat} : ∀ a j, XA a j → XR P a j := fun _ _ h => Or.inr h
theorem XB_S {P : Nat} : ∀ a j, XB a j → XS P a j := fun _ _ h => Or.inr h
theorem XS_R {P : Nat} : ∀ a j, XS P a j → XR P a j := fun a j h => by unfold XS XB at h; unfold XR XA; omega
theorem XB_R {P : Nat} : ∀ a j, XB a j → XR P a j := fun a j h => XS_R a j (Or.inr h)
theorem XB_le : ∀ a j, XB a j → a ≤ 106 := fun a j h => by have := h.1; omega
theorem XA_le : ∀ a j, XA a j → a ≤ 106 := fun a j h => by have := h.1; omega
theorem fcd_ne (n : Nat) (tp : Nat → Nat) (p : Nat) : ¬ fcd n tp p = 0 := by unfold fcd; split <;> omega
theorem FLT.c {M : Mm} {n : Nat} {tp : Nat → Nat} {p : Nat} (h : FLT M (if tk n tp p = 1 then 2 else 1) p) : FLT M (fcd n tp p) p := h
theorem nI_ne_m1 {v : Nat} (h : v < 100000) : ¬ nI v = -1 := fun z => absurd (by rw [z]; decide : nI v < 0) (nI_pos (by omega))
theorem np_toInt {np : Nat} (h : np ≤ 8) : (nI np - 1).toInt = (np : Int) - 1 := by
  show (nI np - nI 1).toInt = _
  rw [pk_sub_toInt (by omega) (by omega)]
  rfl
section PRW
variable {l : Launch} {G : Gx} {d : Nat} {bc bs : Nat} {Φ : OutV → Mm → Prop}
theorem ct_readPerson (M : Mm) {P n : Nat} {tp : Nat → Nat} {sz i np : Nat} {F : Nat → Nat → Nat} (hT : TKS M n tp sz i) (hP : PErd M P np F) (hnp : np < 8) (hd : 1 < d) (h : RdPost M P n tp sz (perS n tp (tb n tp i) np F) Φ) : Ct l G d mPe_readPerson bc bs [.ref P, .ref 102] M Φ := by
  obtain ⟨-, -, -, -, -, hP1, hP2⟩ := id hP
  have key : ∀ c w f M1 i1 u, w + c = 5 → FrS (XS P) M M1 → TKS M1 n tp sz i1 → PErd M1 P np F → (∀ j, j < w → m_i M1 (P + 1) (np * 8 + j) = nI (f j)) → psF n tp c w (tb n tp i1) f = psF n tp 5 0 (tb n tp i) (F np) → Ev l G d mPe_readPerson 2 [.ref P, .ref 102, .int (nI w), u] [] M1 bc bs Φ := by
    intro c
    induction c with
    | zero =>
      intro w f M1 i1 u hw F1 hT1 hPd hf he
      have hw5 : w = 5 := by omega
      subst hw5
      obtain ⟨p0, p1, p2, p3, p4, p5, p6⟩ := id hPd
      have st : ∀ (M2 : Mm) (k : Nat) (v : Int32), k < 8 → FrS (XR P) M1 M2 → (∀ a j, ¬ (a = P + 1 ∧ np * 8 + 5 ≤ j ∧ j < np * 8 + 8) → m_i M2 a j = m_i M1 a j) → PErd M2 P np F := fun M2 k v hk F2 hx => by
        refine ⟨p0.of F2.2.1 F2.2.2.2.1, by rw [hx _ _ (by omega)]; exact p1, p2, fun p w hp hw => by rw [hx _ _ (by omega)]; exact p3 p w hp hw, p4, p5, p6⟩
      have hTk : ∀ (M2 : Mm), FrS (fun a j => a = P + 1 ∧ np * 8 + 5 ≤ j ∧ j < np * 8 + 8 ∨ a = P ∧ j = 2) M1 M2 → TKS M2 n tp sz i1 := fun M2 F2 => hT1.keepS F2 (fun a j _ _ => by omega)
      refine bPe_readPerson_2 M1 _ _ _ _ ⟨fun _ => ⟨p0.1, CallVC.cps0 (by omega) ?_⟩, fun c => absurd (by decide) c⟩
      rw [p1]
      refine ct_setFact M1 P np 5 0 p0 hnp (by omega) ?_
      have G1 : FrS (fun a j => a = P + 1 ∧ np * 8 + 5 ≤ j ∧ j < np * 8 + 8) M1 (m_si M1 (P + 1) (np * 8 + 5) 0) := FrS.si ⟨rfl, by omega, by omega⟩ _
      have v5 : m_i (m_si M1 (P + 1) (np * 8 + 5) 0) (P + 1) (np * 8 + 5) = 0 := by rw [m_i_si, if_pos ⟨rfl, rfl⟩]
      generalize m_si M1 (P + 1) (np * 8 + 5) 0 = M2 at G1 v5 ⊢
      have q1 : m_i M2 P 2 = nI np := by rw [G1.1 _ _ (by omega)]; exact p1
      have q0 : PEok M2 P := p0.of G1.2.1 G1.2.2.2.1
      refine bPe_readPerson_55 M2 _ _ _ _ ⟨q0.1, CallVC.cps0 (by omega) ?_⟩
      rw [q1]
      refine ct_setFact M2 P np 6 3 q0 hnp (by omega) ?_
      have G2 : FrS (fun a j => a = P + 1 ∧ np * 8 + 5 ≤ j ∧ j < np * 8 + 8) M1 (m_si M2 (P + 1) (np * 8 + 6) 3) := G1.tr (FrS.si ⟨rfl, by omega, by omega⟩ _)
      have v6 : m_i (m_si M2 (P + 1) (np * 8 + 6) 3) (P + 1) (np * 8 + 6) = 3 := by rw [m_i_si, if_pos ⟨rfl, rfl⟩]
      have v5' : m_i (m_si M2 (P + 1) (np * 8 + 6) 3) (P + 1) (np * 8 + 5) = 0 := by rw [m_i_si, if_neg (by omega)]; exact v5
      generalize m_si M2 (P + 1) (np * 8 + 6) 3 = M3 at G2 v6 v5' ⊢
      have q1 : m_i M3 P 2 = nI np := by rw [G2.1 _ _ (by omega)]; exact p1
      have q0 : PEok M3 P := p0.of G2.2.1 G2.2.2.2.1
      refine bPe_readPerson_66 M3 _ _ _ _ ⟨q0.1, CallVC.cps0 (by omega) ?_⟩
      rw [q1]
      refine ct_setFact M3 P np 7 0 q0 hnp (by omega) ?_
      have G3 : FrS (fun a j => a = P + 1 ∧ np * 8 + 5 ≤ j ∧ j < np * 8 + 8) M1 (m_si M3 (P + 1) (np * 8 + 7) 0) := G2.tr (FrS.si ⟨rfl, by omega, by omega⟩ _)
      have v7 : m_i (m_si M3 (P + 1) (np * 8 + 7) 0) (P + 1) (np * 8 + 7) = 0 := by rw [m_i_si, if_pos ⟨rfl, rfl⟩]
      have v6' : m_i (m_si M3 (P + 1) (np * 8 + 7) 0) (P + 1) (np * 8 + 6) = 3 := by rw [m_i_si, if_neg (by omega)]; exact v6
      have v5 : m_i (m_si M3 (P + 1) (np * 8 + 7) 0) (P + 1) (np * 8 + 5) = 0 := by rw [m_i_si, if_neg (by omega)]; exact v5'
      generalize m_si M3 (P + 1) (np * 8 + 7) 0 = M4 at G3 v7 v6' v5 ⊢
      have q1 : m_i M4 P 2 = nI np := by rw [G3.1 _ _ (by omega)]; exact p1
      have q0 : PEok M4 P := p0.of G3.2.1 G3.2.2.2.1
      refine bPe_readPerson_77 M4 _ _ _ _ ⟨q0.1, ?_⟩
      rw [q1, nI_1]
      have G4 : FrS (fun a j => a = P + 1 ∧ np * 8 + 5 ≤ j ∧ j < np * 8 + 8 ∨ a = P ∧ j = 2) M1 (m_si M4 P 2 (nI (np + 1))) := (G3.mono (fun a j z => Or.inl z)).tr (FrS.si (Or.inr ⟨rfl, rfl⟩) _)
      have he0 : psF n tp 5 0 (tb n tp i) (F np) = (0, tb n tp i1, f) := he.symm
      have e1 : (perS n tp (tb n tp i) np F) = (0, tb n tp i1, np + 1, fun x => if x = np then perF f else F x) := by unfold perS; rw [he0]
      rw [e1] at h
      refine h.1 rfl _ i1 (F1.tr (G4.mono (fun a j z => by unfold XS; omega))) (hTk _ G4) rfl ⟨p0.of G4.2.1 G4.2.2.2.1, by rw [m_i_si, if_pos ⟨rfl, rfl⟩], by show np + 1 ≤ 8; omega, fun p w hp hw => ?_, fun p hp => ?_, p5, p6⟩
      · rw [m_i_si, if_neg (by omega)]
        show m_i M4 (P + 1) (p * 8 + w) = nI ((if p = np then perF f else F p) w)
        by_cases z : p = np
        · subst z
          rw [if_pos rfl]
          unfold perF
          by_cases w5 : w = 5
          · subst w5; rw [if_pos rfl]; exact v5
          · rw [if_neg w5]
            by_cases w6 : w = 6
            · subst w6; rw [if_pos rfl]; exact v6'
            · rw [if_neg w6]
              by_cases w7 : w = 7
              · subst w7; rw [if_pos rfl]; exact v7
              · rw [if_neg w7, G3.1 _ _ (by omega)]
                exact hf w (by omega)
        · rw [if_neg z, G3.1 _ _ (by omega)]
          exact p3 p w (by have : p < np + 1 := hp; omega) hw
      · show (if p = np then perF f else F p) 7 < 256
        by_cases z : p = np
        · rw [if_pos z]; show 0 < 256; omega
        · rw [if_neg z]; exact p4 p (by have : p < np + 1 := hp; omega)
    | succ c ih =>
      intro w f M1 i1 u hw F1 hT1 hPd hf he
      obtain ⟨p0, p1, p2, p3, p4, p5, p6⟩ := id hPd
      obtain ⟨c1, c2⟩ := cLo_N w (by omega)
      have hl : loN w < 100000 := by unfold loN; split <;> omega
      have ec : (nI w).toNatClampNeg = w := nI_clamp (by omega)
      refine bPe_readPerson_2 M1 _ _ _ _ ⟨fun c => absurd c (by show ¬ nI 5 ≤ nI w; exact nI_not_le (by omega) (by omega)), fun _ => ⟨vp_in_nI (by omega) (by omega), hT1.1.1, CallVC.cps0 (by omega) ?_⟩⟩
      rw [ec]
      have he' : (if nOK n tp (loN w) (hiN w) (tb n tp i1) then psF n tp c (w + 1) (nx n tp (tb n tp i1)) (upN f w (cvl n tp (tb n tp i1))) else (fcd n tp (tb n tp i1), tb n tp i1, f)) = psF n tp 5 0 (tb n tp i) (F np) := he
      refine ct_takeNumber M1 hT1 (loN w) (hiN w) _ _ c1 hl c2 (fun ok M2 F2 hT2 => ?_) (fun bad M2 F2 hT2 hfl => ?_)
      · rw [if_pos ok] at he'
        have hv := cvl_lt n tp (tb n tp i1)
        have hP2 := hPd.fr F2 XB_le
        refine bPe_readPerson_21 M2 _ _ _ _ _ ⟨fun _ => ⟨hP2.1.1, CallVC.cps0 (by omega) ?_⟩, fun z => absurd z (nI_ne_m1 hv)⟩
        rw [hP2.2.1]
        refine ct_setFact M2 P np w _ hP2.1 hnp (by omega) ?_
        have G1 : FrS (fun a j => a = P + 1 ∧ j = np * 8 + w) M2 (m_si M2 (P + 1) (np * 8 + w) (nI (cvl n tp (tb n tp i1)))) := FrS.si ⟨rfl, rfl⟩ _
        have v1 : m_i (m_si M2 (P + 1) (np * 8 + w) (nI (cvl n tp (tb n tp i1)))) (P + 1) (np * 8 + w) = nI (cvl n tp (tb n tp i1)) := by rw [m_i_si, if_pos ⟨rfl, rfl⟩]
        generalize m_si M2 (P + 1) (np * 8 + w) (nI (cvl n tp (tb n tp i1))) = M3 at G1 v1 ⊢
        refine bPe_readPerson_39 M3 _ _ _ _ ?_
        rw [nI_1]
        obtain ⟨r0, r1, r2, r3, r4, r5, r6⟩ := id hP2
        refine ih (w + 1) (upN f w (cvl n tp (tb n tp i1))) M3 (i1 + 1) _ (by omega) (F1.tr ((F2.mono XB_S).tr (G1.mono (fun a j z => by unfold XS; omega)))) (hT2.keepS G1 (fun a j _ _ => by omega)) ⟨r0.of G1.2.1 G1.2.2.2.1, by rw [G1.1 _ _ (by omega)]; exact r1, r2, fun p w' hp hw' => by rw [G1.1 _ _ (by omega)]; exact r3 p w' hp hw', r4, r5, r6⟩ (fun j hj => ?_) he'
        unfold upN
        by_cases z : j = w
        · rw [if_pos z, z]; exact v1
        · rw [if_neg z, G1.1 _ _ (by omega), F2.1 _ _ (by unfold XB; omega)]
          exact hf j (by omega)
      · rw [if_neg bad] at he'
        refine bPe_readPerson_21 M2 _ _ _ _ _ ⟨fun z => absurd rfl z, fun _ => ?_⟩
        have e1 : perS n tp (tb n tp i) np F = (fcd n tp (tb n tp i1), tb n tp i1, np + 1, fun x => if x = np then perF f else F x) := by unfold perS; rw [← he']
        rw [e1] at h
        exact h.2 (fcd_ne _ _ _) M2 i1 ((F1.mono XS_R).tr (F2.mono XA_R)) hT2 hfl
  refine Ct.of rfl (Nat.le_of_ble_eq_true rfl) (bPe_readPerson_0 M _ _ ?_)
  exact key 5 0 (F np) M i _ rfl (FrS.rf _ _) hT hP (fun j hj => absurd hj (by omega)) rfl
theorem ct_readKnows (M : Mm) {P n : Nat} {tp : Nat → Nat} {sz i np : Nat} {F : Nat → Nat → Nat} (hT : TKS M n tp sz i) (hP : PErd M P np F) (hd : 1 < d) (h : RdPost M P n tp sz (knoS n tp (tb n tp i) np F) Φ) : Ct l G d mPe_readKnows bc bs [.ref P, .ref 102] M Φ := by
  obtain ⟨p0, p1, p2, p3, p4, p5, p6⟩ := id hP
  unfold knoS at h
  refine Ct.of rfl (Nat.le_of_ble_eq_true rfl) (bPe_readKnows_0 M _ _ ⟨p0.1, hT.1.1, CallVC.cps0 (by omega) ?_⟩)
  rw [p1]
  refine ct_takeNumber M hT 0 np _ _ rfl (by omega) (np_toInt p2) (fun ok M2 F2 hT2 => ?_) (fun bad M2 F2 hT2 hfl => ?_)
  · rw [if_pos ok] at h
    have hv := cvl_lt n tp (tb n tp i)
    have ha := ok.2.2
    have hP2 := hP.fr F2 XB_le
    refine bPe_readKnows_11 M2 _ _ _ _ _ ⟨fun _ => ⟨hT2.1.1, CallVC.cps0 (by omega) ?_⟩, fun z => absurd z (nI_ne_m1 hv)⟩
    refine ct_isNumber M2 hT2 _ hv ?_
    change RdPost M P n tp sz (if tk n tp (tb n tp (i + 1)) = 1 ∧ cvl n tp (tb n tp (i + 1)) = cvl n tp (tb n tp i) then (2, tb n tp (i + 1), np, F) else if nOK n tp 0 np (tb n tp (i + 1)) then (0, nx n tp (tb n tp (i + 1)), np, knoF F (cvl n tp (tb n tp i)) (cvl n tp (tb n tp (i + 1)))) else (fcd n tp (tb n tp (i + 1)), tb n tp (i + 1), np, F)) Φ at h
    by_cases hsm : tk n tp (tb n tp (i + 1)) = 1 ∧ cvl n tp (tb n tp (i + 1)) = cvl n tp (tb n tp i)
    · rw [if_pos hsm] at h ⊢
      refine bPe_readKnows_24 M2 _ _ _ _ _ ⟨fun z => absurd z (by decide), fun _ => ⟨hT2.1.1, CallVC.cps0 (by omega) ?_⟩⟩
      refine ct_fail M2 hT2 2 2 rfl (fun M3 F3 hT3 hfl => ?_)
      refine bPe_readKnows_32 M3 _ _ _ _ _ ⟨rfl, ?_⟩
      exact h.2 (by show ¬ 2 = 0; decide) M3 _ ((F2.mono XB_R).tr (F3.mono XA_R)) hT3 hfl
    · rw [if_neg hsm] at h ⊢
      refine bPe_readKnows_24 M2 _ _ _ _ _ ⟨fun _ => ⟨hP2.1.1, hT2.1.1, CallVC.cps0 (by omega) ?_⟩, fun z => absurd rfl z⟩
      rw [hP2.2.1]
      refine ct_takeNumber M2 hT2 0 np _ _ rfl (by omega) (np_toInt p2) (fun ok2 M3 F3 hT3 => ?_) (fun bad M3 F3 hT3 hfl => ?_)
      · rw [if_pos ok2] at h
        have hv2 := cvl_lt n tp (tb n tp (i + 1))
        have hb := ok2.2.2
        have hP3 := hP2.fr F3 XB_le
        generalize cvl n tp (tb n tp (i + 1)) = b at hv2 hb h ⊢
        generalize cvl n tp (tb n tp i) = a at hv ha h ⊢
        obtain ⟨r0, r1, r2, r3, r4, r5, r6⟩ := id hP3
        refine bPe_readKnows_44 M3 _ _ _ _ _ ⟨fun _ => ⟨r0.1, CallVC.cps0 (by omega) ?_⟩, fun z => absurd z (nI_ne_m1 hv2)⟩
        refine ct_fact M3 P a 7 r0 (by omega) (by omega) ?_
        refine bPe_readKnows_63 M3 _ _ _ _ _ _ _ _ ⟨r0.1, CallVC.cps0 (by omega) ?_⟩
        rw [r3 a 7 ha (by omega), (bit_set (r4 a ha) (by omega : b < 8)).1]
        refine ct_setFact M3 P a 7 _ r0 (by omega) (by omega) ?_
        have hs1 := (bit_set (r4 a ha) (by omega : b < 8)).2
        have G1 : FrS (fun x j => x = P + 1) M3 (m_si M3 (P + 1) (a * 8 + 7) (nI (F a 7 ||| 2 ^ b))) := FrS.si (P := fun x _ => x = P + 1) rfl _
        have w1 : ∀ p w, p < np → w < 8 → m_i (m_si M3 (P + 1) (a * 8 + 7) (nI (F a 7 ||| 2 ^ b))) (P + 1) (p * 8 + w) = nI (up2 F a 7 (F a 7 ||| 2 ^ b) p w) := fun p w hp hw => by
          rw [m_i_si]
          unfold up2
          by_cases z : p = a ∧ w = 7
          · rw [if_pos ⟨rfl, by rw [z.1, z.2]⟩, if_pos z]
          · rw [if_neg (by omega), if_neg z]; exact r3 p w hp hw
        have w2 : ∀ p, p < np → up2 F a 7 (F a 7 ||| 2 ^ b) p 7 < 256 := fun p hp => by
          unfold up2
          by_cases z : p = a ∧ 7 = 7
          · rw [if_pos z]; exact hs1
          · rw [if_neg z]; exact r4 p hp
        generalize m_si M3 (P + 1) (a * 8 + 7) (nI (F a 7 ||| 2 ^ b)) = M4 at G1 w1 ⊢
        have q0 : PEok M4 P := r0.of G1.2.1 G1.2.2.2.1
        refine bPe_readKnows_70 M4 _ _ _ _ ⟨q0.1, CallVC.cps0 (by omega) ?_⟩
        refine ct_fact M4 P b 7 q0 (by omega) (by omega) ?_
        refine bPe_readKnows_81 M4 _ _ _ _ _ _ _ _ ⟨q0.1, CallVC.cps0 (by omega) ?_⟩
        rw [w1 b 7 hb (by omega), (bit_set (w2 b hb) (by omega : a < 8)).1]
        refine ct_setFact M4 P b 7 _ q0 (by omega) (by omega) ?_
        have hs2 := (bit_set (w2 b hb) (by omega : a < 8)).2
        have G2 : FrS (fun x j => x = P + 1) M3 (m_si M4 (P + 1) (b * 8 + 7) (nI (up2 F a 7 (F a 7 ||| 2 ^ b) b 7 ||| 2 ^ a))) := G1.tr (FrS.si (P := fun x _ => x = P + 1) rfl _)
        refine bPe_readKnows_88 _ _ _ _ _ ?_
        refine h.1 rfl _ (i + 1 + 1) (((F2.mono XB_S).tr (F3.mono XB_S)).tr (G2.mono (fun x j z => by unfold XS; omega))) (hT3.keepS G2 (fun x j _ _ => by omega)) rfl ⟨r0.of G2.2.1 G2.2.2.2.1, by rw [G2.1 _ _ (by omega)]; exact r1, r2, fun p w hp hw => ?_, fun p hp => ?_, r5, r6⟩
        · rw [m_i_si]
          show _ = nI (up2 (up2 F a 7 (F a 7 ||| 2 ^ b)) b 7 (up2 F a 7 (F a 7 ||| 2 ^ b) b 7 ||| 2 ^ a) p w)
          by_cases z : p = b ∧ w = 7
          · rw [if_pos ⟨rfl, by rw [z.1, z.2]⟩]
            exact (congrArg nI (if_pos z)).symm
          · rw [if_neg (by omega), w1 p w hp hw]
            exact (congrArg nI (if_neg z)).symm
        · show up2 (up2 F a 7 (F a 7 ||| 2 ^ b)) b 7 (up2 F a 7 (F a 7 ||| 2 ^ b) b 7 ||| 2 ^ a) p 7 < 256
          by_cases z : p = b ∧ 7 = 7
          · have e : up2 (up2 F a 7 (F a 7 ||| 2 ^ b)) b 7 (up2 F a 7 (F a 7 ||| 2 ^ b) b 7 ||| 2 ^ a) p 7 = up2 F a 7 (F a 7 ||| 2 ^ b) b 7 ||| 2 ^ a := if_pos z
            rw [e]; exact hs2
          · have e : up2 (up2 F a 7 (F a 7 ||| 2 ^ b)) b 7 (up2 F a 7 (F a 7 ||| 2 ^ b) b 7 ||| 2 ^ a) p 7 = up2 F a 7 (F a 7 ||| 2 ^ b) p 7 := if_neg z
            rw [e]; exact w2 p hp
      · rw [if_neg bad] at h
        refine bPe_readKnows_44 M3 _ _ _ _ _ ⟨fun z => absurd rfl z, fun _ => ?_⟩
        exact h.2 (fcd_ne _ _ _) M3 _ ((F2.mono XB_R).tr (F3.mono XA_R)) hT3 hfl
  · rw [if_neg bad] at h
    refine bPe_readKnows_11 M2 _ _ _ _ _ ⟨fun z => absurd rfl z, fun _ => ?_⟩
    exact h.2 (fcd_ne _ _ _) M2 _ (F2.mono XA_R) hT2 hfl
theorem wH_N : ∀ w, w < 6 → 4 ≤ w → wLo w = nI 0 ∧ (wHi w).toInt = ((if w = 4 then 5 else 100 : Nat) : Int) - 1 := by decide +kernel
theorem ct_readHabit (M : Mm) {P n : Nat} {tp : Nat → Nat} {sz i np : Nat} {F : Nat → Nat → Nat} (w : Nat) (hw : w = 4 ∨ w = 5) (hT : TKS M n tp sz i) (hP : PErd M P np F) (hd : 1 < d) (h : RdPost M P n tp sz (habS n tp w (tb n tp i) np F) Φ) : Ct l G d mPe_readHabit bc bs [.ref P, .ref 102, .ref w] M Φ := by
  obtain ⟨p0, p1, p2, p3, p4, p5, p6⟩ := id hP
  obtain ⟨c1, c2⟩ := wH_N w (by omega) (by omega)
  unfold habS at h
  refine Ct.of rfl (Nat.le_of_ble_eq_true rfl) (bPe_readHabit_0 M _ _ _ ⟨p0.1, hT.1.1, CallVC.cps0 (by omega) ?_⟩)
  rw [p1]
  refine ct_takeNumber M hT 0 np _ _ rfl (by omega) (np_toInt p2) (fun ok M2 F2 hT2 => ?_) (fun bad M2 F2 hT2 hfl => ?_)
  · rw [if_pos ok] at h
    have hv := cvl_lt n tp (tb n tp i)
    have ha := ok.2.2
    have hP2 := hP.fr F2 XB_le
    refine bPe_readHabit_11 M2 _ _ _ _ _ _ ⟨fun _ => ⟨⟨by omega, by omega⟩, hT2.1.1, CallVC.cps0 (by omega) ?_⟩, fun z => absurd z (nI_ne_m1 hv)⟩
    refine ct_takeNumber M2 hT2 0 (if w = 4 then 5 else 100) _ _ c1 (by omega) c2 (fun ok2 M3 F3 hT3 => ?_) (fun bad M3 F3 hT3 hfl => ?_)
    · have h' : RdPost M P n tp sz (if nOK n tp 0 (if w = 4 then 5 else 100) (tb n tp (i + 1)) then (0, nx n tp (tb n tp (i + 1)), np, up2 F (cvl n tp (tb n tp i)) (if w = 4 then 5 else 6) (cvl n tp (tb n tp (i + 1)))) else (fcd n tp (tb n tp (i + 1)), tb n tp (i + 1), np, F)) Φ := h
      rw [if_pos ok2] at h'
      have hv2 := cvl_lt n tp (tb n tp (i + 1))
      have hP3 := hP2.fr F3 XB_le
      generalize cvl n tp (tb n tp (i + 1)) = b at hv2 h' ⊢
      generalize cvl n tp (tb n tp i) = a at hv ha h' ⊢
      obtain ⟨r0, r1, r2, r3, r4, r5, r6⟩ := id hP3
      have fin : ∀ k, k = (if w = 4 then 5 else 6) → k < 7 → Ct l G (d - 1) mPe_setFact 0 0 [.ref P, .int (nI a), .int (nI k), .int (nI b)] M3 (contΦ l G d mPe_readHabit 61 [.ref P, .ref 102, .ref w, .int (nI a), .int (nI b)] [] bc bs Φ) := fun k hk hk7 => by
        refine ct_setFact M3 P a k _ r0 (by omega) (by omega) ?_
        have G1 : FrS (fun x j => x = P + 1) M3 (m_si M3 (P + 1) (a * 8 + k) (nI b)) := FrS.si (P := fun x _ => x = P + 1) rfl _
        refine bPe_readHabit_61 _ _ _ _ _ _ ?_
        refine h'.1 rfl _ (i + 1 + 1) (((F2.mono XB_S).tr (F3.mono XB_S)).tr (G1.mono (fun x j z => by unfold XS; omega))) (hT3.keepS G1 (fun x j _ _ => by omega)) rfl ⟨r0.of G1.2.1 G1.2.2.2.1, by rw [G1.1 _ _ (by omega)]; exact r1, r2, fun p w' hp hw' => ?_, fun p hp => ?_, r5, r6⟩
        · rw [m_i_si]
          show _ = nI (if p = a ∧ w' = (if w = 4 then 5 else 6) then b else F p w')
          rw [← hk]
          by_cases z : p = a ∧ w' = k
          · rw [if_pos ⟨rfl, by rw [z.1, z.2]⟩, if_pos z]
          · rw [if_neg (by omega), if_neg z]; exact r3 p w' hp hw'
        · show (if p = a ∧ 7 = (if w = 4 then 5 else 6) then b else F p 7) < 256
          rw [← hk, if_neg (by omega)]
          exact r4 p hp
      refine bPe_readHabit_31 M3 _ _ _ _ _ _ ⟨fun _ => ⟨⟨by omega, by omega⟩, fun z => ⟨r0.1, CallVC.cps0 (by omega) ?_⟩, fun z => ⟨r0.1, CallVC.cps0 (by omega) ?_⟩⟩, fun z => absurd z (nI_ne_m1 hv2)⟩
      · exact fin 6 (by rw [if_neg z]) (by omega)
      · exact fin 5 (by rw [if_pos z]) (by omega)
    · have h' : RdPost M P n tp sz (if nOK n tp 0 (if w = 4 then 5 else 100) (tb n tp (i + 1)) then (0, nx n tp (tb n tp (i + 1)), np, up2 F (cvl n tp (tb n tp i)) (if w = 4 then 5 else 6) (cvl n tp (tb n tp (i + 1)))) else (fcd n tp (tb n tp (i + 1)), tb n tp (i + 1), np, F)) Φ := h
      rw [if_neg bad] at h'
      refine bPe_readHabit_31 M3 _ _ _ _ _ _ ⟨fun z => absurd rfl z, fun _ => ?_⟩
      exact h'.2 (fcd_ne _ _ _) M3 _ ((F2.mono XB_R).tr (F3.mono XA_R)) hT3 hfl
  · rw [if_neg bad] at h
    refine bPe_readHabit_11 M2 _ _ _ _ _ _ ⟨fun z => absurd rfl z, fun _ => ?_⟩
    exact h.2 (fcd_ne _ _ _) M2 _ (F2.mono XA_R) hT2 hfl
end PRW
