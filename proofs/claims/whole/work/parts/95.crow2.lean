/-! ===== a row: the class ===== -/
theorem CDY.tx {M M' : Mm} {w : Wd} {P A E len : Nat} {X Y : Nat → Nat → Prop} (hw : WOK w) (h : CDY M w P A E len) (hF : FrX X Y M M') (hX : ∀ a j, X a j → a = 100 ∨ (102 ≤ a ∧ a ≤ 106) ∨ (217 - P ≤ a ∧ a ≤ 219 - P) ∨ (233 - A ≤ a ∧ a ≤ 239 - A)) (hY : ∀ a j, Y a j → a = 106) : CDY M' w P A E len := by
  obtain ⟨⟨b1, b2, b3, b4, b5, b6, b7, b8, b9, ⟨i1, p1, b10⟩, ⟨i2, p2, b11⟩, b12, b13⟩, a2, a3, a4, a5, a6, a7, a8⟩ := h
  have hr : ∀ a j, ¬ a = 106 → m_r M' a j = m_r M a j := fun a j n => hF.2.1 a j (fun q => n (hY a j q))
  have hs := hF.2.2.2.1
  have hi : ∀ a j, ¬ (a = 100 ∨ (102 ≤ a ∧ a ≤ 106) ∨ (217 - P ≤ a ∧ a ≤ 219 - P) ∨ (233 - A ≤ a ∧ a ≤ 239 - A)) → m_i M' a j = m_i M a j := fun a j n => hF.1 a j (fun q => n (hX a j q))
  have hcif : CIF M' w A P := IFinv.ag a4 ⟨fun a q j => hi a j (by omega), fun a q j => hr a j (by omega), fun a q => hs a⟩ (fun a h1 h2 j => hi a j (by omega)) (fun a h1 h2 j => hr a j (by omega)) (fun a h1 h2 => hs a)
  refine ⟨⟨b1.ag (fun a j h1 h2 n => hr a j (fun z => n ?_)) (fun a _ _ => hs a), b2, b3, b4, by rw [hr _ _ (by omega)]; exact b5, by rw [hr _ _ (by omega)]; exact b6, by rw [hr _ _ (by omega)]; exact b7, by rw [hr _ _ (by omega)]; exact b8, b9.ag (fun j _ _ => hr _ j (by omega)) (fun a _ _ => hs a), ⟨i1, p1, b10.ag (fun a h1 h2 j => hr a j (by omega)) (fun a h1 h2 => hs a)⟩, ⟨i2, p2, b11.ag (fun a h1 h2 j => hr a j (by omega)) (fun a h1 h2 => hs a)⟩, by rw [hr _ _ (by omega)]; exact b12, by rw [hs]; exact b13⟩, ?_, ?_, hcif, a5.ag (fun a h1 h2 j => hi a j (by omega)), a6.ag hw ⟨fun a q j => hi a j (by omega), fun a q j => hr a j (by omega), fun a q => hs a⟩ hcif, a7.ag (fun j => hi _ j (by omega)), a8.ag (fun j => hi _ j (by omega))⟩
  · subst z
    unfold RX
    omega
  · obtain ⟨c1, c2, c3, c4⟩ := a2
    exact ⟨by rw [hi _ _ (by omega)]; exact c1, c2, fun p k hp hk => by rw [hi _ _ (by omega)]; exact c3 p k hp hk, fun i hi2 => by rw [hi _ _ (by omega)]; exact c4 i hi2⟩
  · exact a3.fr (fun a h1 h2 j => hi a j (by omega))
/-- what is read keeps the ranges -/
def FAs (np : Nat) (F : Nat → Nat → Nat) : Prop := np ≤ 8 ∧ ∀ p, p < np → FAok F p
theorem psF_ok (n : Nat) (tp : Nat → Nat) : ∀ c w p f, w + c = 5 → (∀ j, j < w → loN j ≤ f j ∧ f j < hiN j) → (psF n tp c w p f).1 = 0 → ∀ j, j < 5 → loN j ≤ (psF n tp c w p f).2.2 j ∧ (psF n tp c w p f).2.2 j < hiN j
  | 0, w, p, f, hw, hf, _, j, hj => hf j (by omega)
  | c + 1, w, p, f, hw, hf, h0, j, hj => by
    have e : psF n tp (c + 1) w p f = if nOK n tp (loN w) (hiN w) p then psF n tp c (w + 1) (nx n tp p) (upN f w (cvl n tp p)) else (fcd n tp p, p, f) := rfl
    rw [e] at h0 ⊢
    by_cases z : nOK n tp (loN w) (hiN w) p
    · rw [if_pos z] at h0 ⊢
      refine psF_ok n tp c (w + 1) (nx n tp p) _ (by omega) (fun i hi => ?_) h0 j hj
      unfold upN
      by_cases y : i = w
      · rw [if_pos y, y]; exact ⟨z.2.1, z.2.2⟩
      · rw [if_neg y]; exact hf i (by omega)
    · rw [if_neg z] at h0
      exact absurd h0 (fcd_ne _ _ _)
theorem perS_ok {n : Nat} {tp : Nat → Nat} {p np : Nat} {F : Nat → Nat → Nat} (h : FAs np F) (h8 : np < 8) (h0 : (perS n tp p np F).1 = 0) : FAs (perS n tp p np F).2.2.1 (perS n tp p np F).2.2.2 := by
  refine ⟨by show np + 1 ≤ 8; omega, fun q hq => ?_⟩
  have hq' : q < np + 1 := hq
  have k := psF_ok n tp 5 0 p (F np) rfl (fun j hj => absurd hj (by omega)) h0
  by_cases z : q = np
  · subst z
    have e : (perS n tp p q F).2.2.2 q = perF (psF n tp 5 0 p (F q)).2.2 := if_pos rfl
    unfold FAok
    rw [e]
    have k0 := k 0 (by omega)
    have k1 := k 1 (by omega)
    have k2 := k 2 (by omega)
    have k3 := k 3 (by omega)
    have k4 := k 4 (by omega)
    generalize (psF n tp 5 0 p (F q)).2.2 = g at k0 k1 k2 k3 k4 ⊢
    have e0 : hiN 0 = 1000 := rfl
    have e1 : hiN 1 = 100 := rfl
    have e2 : hiN 2 = 10 := rfl
    have e3 : hiN 3 = 61 := rfl
    have e4 : hiN 4 = 1000 := rfl
    have l3 : loN 3 = 1 := rfl
    have l4 : loN 4 = 1 := rfl
    show g 0 ≤ 999 ∧ g 1 ≤ 99 ∧ g 2 ≤ 9 ∧ (1 ≤ g 3 ∧ g 3 ≤ 60) ∧ (1 ≤ g 4 ∧ g 4 ≤ 999) ∧ 0 ≤ 4 ∧ 3 ≤ 99 ∧ 0 < 256
    omega
  · have e : (perS n tp p np F).2.2.2 q = F q := if_neg z
    unfold FAok
    rw [e]
    exact h.2 q (by omega)
theorem FAok.up {F : Nat → Nat → Nat} {p a k v : Nat} (h : FAok F p) (hk : (k = 5 ∧ v ≤ 4) ∨ (k = 6 ∧ v ≤ 99) ∨ (k = 7 ∧ v < 256)) : FAok (up2 F a k v) p := by
  obtain ⟨h0, h1, h2, h3, h4, h5, h6, h7⟩ := h
  have e : ∀ j, ¬ j = k → up2 F a k v p j = F p j := fun j hj => if_neg (fun z => hj z.2)
  have e2 : ∀ j, j = k → up2 F a k v p j = v ∨ up2 F a k v p j = F p j := fun j hj => by
    unfold up2
    split
    · exact Or.inl rfl
    · exact Or.inr rfl
  unfold FAok
  rw [e 0 (by omega), e 1 (by omega), e 2 (by omega), e 3 (by omega), e 4 (by omega)]
  refine ⟨h0, h1, h2, h3, h4, ?_, ?_, ?_⟩
  · by_cases z : 5 = k
    · rcases e2 5 z with q | q <;> rw [q] <;> omega
    · rw [e 5 z]; exact h5
  · by_cases z : 6 = k
    · rcases e2 6 z with q | q <;> rw [q] <;> omega
    · rw [e 6 z]; exact h6
  · by_cases z : 7 = k
    · rcases e2 7 z with q | q <;> rw [q] <;> omega
    · rw [e 7 z]; exact h7
theorem knoS_ok {n : Nat} {tp : Nat → Nat} {p np : Nat} {F : Nat → Nat → Nat} (h : FAs np F) (h0 : (knoS n tp p np F).1 = 0) : FAs (knoS n tp p np F).2.2.1 (knoS n tp p np F).2.2.2 := by
  unfold knoS at h0 ⊢
  by_cases z1 : nOK n tp 0 np p
  · rw [if_pos z1] at h0 ⊢
    by_cases z2 : tk n tp (nx n tp p) = 1 ∧ cvl n tp (nx n tp p) = cvl n tp p
    · rw [if_pos z2] at h0; exact absurd h0 (by show ¬ 2 = 0; omega)
    · rw [if_neg z2] at h0 ⊢
      by_cases z3 : nOK n tp 0 np (nx n tp p)
      · rw [if_pos z3]
        have h8 := h.1
        refine ⟨h8, fun q hq => ?_⟩
        have s1 := (bit_set (h.2 _ z1.2.2).2.2.2.2.2.2.2 (show cvl n tp (nx n tp p) < 8 by have := z3.2.2; omega)).2
        have w2 : FAok (up2 F (cvl n tp p) 7 (F (cvl n tp p) 7 ||| 2 ^ cvl n tp (nx n tp p))) (cvl n tp (nx n tp p)) := (h.2 _ z3.2.2).up (Or.inr (Or.inr ⟨rfl, s1⟩))
        have s2 := (bit_set w2.2.2.2.2.2.2.2 (show cvl n tp p < 8 by have := z1.2.2; omega)).2
        exact ((h.2 q hq).up (Or.inr (Or.inr ⟨rfl, s1⟩))).up (Or.inr (Or.inr ⟨rfl, s2⟩))
      · rw [if_neg z3] at h0; exact absurd h0 (fcd_ne _ _ _)
  · rw [if_neg z1] at h0; exact absurd h0 (fcd_ne _ _ _)
theorem habS_ok {n : Nat} {tp : Nat → Nat} {w p np : Nat} {F : Nat → Nat → Nat} (h : FAs np F) (h0 : (habS n tp w p np F).1 = 0) : FAs (habS n tp w p np F).2.2.1 (habS n tp w p np F).2.2.2 := by
  unfold habS at h0 ⊢
  by_cases z1 : nOK n tp 0 np p
  · rw [if_pos z1] at h0 ⊢
    by_cases z2 : nOK n tp 0 (if w = 4 then 5 else 100) (nx n tp p)
    · rw [if_pos z2]
      refine ⟨h.1, fun q hq => (h.2 q hq).up ?_⟩
      have := z2.2.2
      by_cases y : w = 4
      · rw [if_pos y] at this ⊢; omega
      · rw [if_neg y] at this ⊢; omega
    · rw [if_neg z2] at h0; exact absurd h0 (fcd_ne _ _ _)
  · rw [if_neg z1] at h0; exact absurd h0 (fcd_ne _ _ _)
theorem clS_ok {n : Nat} {tp : Nat → Nat} {k p np : Nat} {F : Nat → Nat → Nat} (h : FAs np F) (h0 : (clS n tp k p np F).1 = 0) : FAs (clS n tp k p np F).2.2.1 (clS n tp k p np F).2.2.2 := by
  have ec : ∀ r : RR, (r.1 = 0 → FAs r.2.2.1 r.2.2.2) → (ecS n tp r).1 = 0 → FAs (ecS n tp r).2.2.1 (ecS n tp r).2.2.2 := fun r hr e => by
    unfold ecS at e ⊢
    by_cases z : r.1 = 0
    · rw [if_pos z] at e ⊢
      by_cases y : sg n tp r.2.1 = 59
      · rw [if_pos y]; exact hr z
      · rw [if_neg y] at e; exact absurd e (by show ¬ 1 = 0; omega)
    · rw [if_neg z] at e; exact absurd e z
  unfold clS at h0 ⊢
  by_cases z1 : wd n tp p = 2 ∨ wd n tp p = 3 ∨ wd n tp p = 4 ∨ wd n tp p = 5
  · rw [if_pos z1] at h0 ⊢
    by_cases z2 : 40 ≤ k ∨ (wd n tp p = 2 ∧ 8 ≤ np)
    · rw [if_pos z2] at h0; exact absurd h0 (by show ¬ 3 = 0; omega)
    · rw [if_neg z2] at h0 ⊢
      refine ec _ (fun e => ?_) h0
      by_cases y2 : wd n tp p = 2
      · rw [if_pos y2] at e ⊢; exact perS_ok h (by omega) e
      · rw [if_neg y2] at e ⊢
        by_cases y3 : wd n tp p = 3
        · rw [if_pos y3] at e ⊢; exact knoS_ok h e
        · rw [if_neg y3] at e ⊢; exact habS_ok h e
  · rw [if_neg z1] at h0; exact absurd h0 (by show ¬ 1 = 0; omega)
theorem rwF_succ (n : Nat) (tp : Nat → Nat) (c k p np : Nat) (F : Nat → Nat → Nat) : rwF n tp (c + 1) k p np F = if tk n tp p = 0 then (0, p, np, F) else if (clS n tp k p np F).1 = 0 then rwF n tp c (k + 1) (clS n tp k p np F).2.1 (clS n tp k p np F).2.2.1 (clS n tp k p np F).2.2.2 else clS n tp k p np F := rfl
theorem rwF_ok (n : Nat) (tp : Nat → Nat) : ∀ c k p np F, FAs np F → (rwF n tp c k p np F).1 = 0 → FAs (rwF n tp c k p np F).2.2.1 (rwF n tp c k p np F).2.2.2
  | 0, _, _, _, _, h, _ => h
  | c + 1, k, p, np, F, h, h0 => by
    rw [rwF_succ] at h0 ⊢
    by_cases z : tk n tp p = 0
    · rw [if_pos z]; exact h
    · rw [if_neg z] at h0 ⊢
      by_cases y : (clS n tp k p np F).1 = 0
      · rw [if_pos y] at h0 ⊢
        exact rwF_ok n tp c _ _ _ _ (clS_ok h y) h0
      · rw [if_neg y] at h0; exact absurd h0 y
section CR2
variable {l : Launch} {G : Gx} {d : Nat} {bc bs : Nat} {Φ : OutV → Mm → Prop}
theorem ct_readClauses (M : Mm) {P n : Nat} {tp : Nat → Nat} {sz : Nat} (hT : TKS M n tp sz 0) (hP : PEok M P) (hP1 : 106 < P ∧ P < 200) (hd : 3 < d)
    (h1 : (rwS n tp).1 = 0 → ∀ M', FrS (XS P) M M' → PErd M' P (rwS n tp).2.2.1 (rwS n tp).2.2.2 → (∀ i, i < (rwS n tp).2.2.1 → m_i M' (P + 2) i = nI (byF (fun x => (rwS n tp).2.2.2 x 0) (rwS n tp).2.2.1 i)) → Φ (.inl (some (.int 1))) M')
    (h2 : ¬ (rwS n tp).1 = 0 → ∀ M', FrS (XR P) M M' → FLT M' (rwS n tp).1 (rwS n tp).2.1 → Φ (.inl (some (.int 0))) M') : Ct l G d mPe_readClauses bc bs [.ref P, .ref 102] M Φ := by
  have fin : ∀ M1 np F x, FrS (XS P) M M1 → PErd M1 P np F → FAs np F → (rwS n tp).1 = 0 → (rwS n tp).2.2 = (np, F) → Ev l G d mPe_readClauses 37 [.ref P, .ref 102, .int x] [] M1 bc bs Φ := by
    intro M1 np F x F1 hPd hFA h0 he
    rw [he] at h1
    refine bPe_readClauses_37 M1 _ _ _ ⟨hPd.1.1, CallVC.cps0 (by omega) ?_⟩
    refine ct_lineUp M1 hPd (fun p hp => by have := (hFA.2 p hp).1; omega) (by omega) (fun M2 F2 hb => ?_)
    refine bPe_readClauses_41 M2 _ _ _ ?_
    obtain ⟨r0, r1, r2, r3, r4, r5, r6⟩ := hPd
    exact h1 h0 M2 (F1.tr (F2.mono (fun a j z => by unfold XS; omega))) ⟨r0.of F2.2.1 F2.2.2.2.1, by rw [F2.1 _ _ (by omega)]; exact r1, r2, fun p w hp hw => by rw [F2.1 _ _ (by omega)]; exact r3 p w hp hw, r4, r5, r6⟩ hb
  have key : ∀ c k M1 i np F, k + c = 41 → FrS (XS P) M M1 → TKS M1 n tp sz i → PErd M1 P np F → FAs np F → rwF n tp c k (tb n tp i) np F = rwS n tp → Ev l G d mPe_readClauses 7 [.ref P, .ref 102, .int (nI k)] [] M1 bc bs Φ := by
    intro c
    induction c with
    | zero =>
      intro k M1 i np F hk F1 hT1 hPd hFA he
      refine bPe_readClauses_7 M1 _ _ _ ⟨fun _ => ?_, fun z => absurd (by show nI 40 < nI k; exact nI_lt (by omega) (by omega)) z⟩
      exact fin M1 np F _ F1 hPd hFA (by rw [← he]; rfl) (by rw [← he]; rfl)
    | succ c ih =>
      intro k M1 i np F hk F1 hT1 hPd hFA he
      rw [rwF_succ] at he
      refine bPe_readClauses_7 M1 _ _ _ ⟨fun z => absurd z (by show ¬ nI 40 < nI k; exact nI_nlt (by omega) (by omega)), fun _ => ⟨hT1.1.1, CallVC.cps0 (by omega) (ct_atEnd M1 hT1 ?_)⟩⟩
      by_cases z : tk n tp (tb n tp i) = 0
      · rw [if_pos z] at he ⊢
        refine bPe_readClauses_17 M1 _ _ _ _ ⟨fun _ => ?_, fun y => absurd y (by decide)⟩
        exact fin M1 np F _ F1 hPd hFA (by rw [← he]) (by rw [← he])
      · rw [if_neg z] at he ⊢
        refine bPe_readClauses_17 M1 _ _ _ _ ⟨fun y => absurd rfl y, fun _ => ⟨hPd.1.1, CallVC.cps0 (by omega) (ct_readClause M1 hT1 hPd (by omega) (by omega) ⟨fun e M2 i2 F2 hT2 hp hP2 => ?_, fun e M2 i2 F2 hT2 hfl => ?_⟩)⟩⟩
        · rw [if_pos e] at he
          refine bPe_readClauses_26 M2 _ _ _ _ ⟨fun _ => ?_, fun y => absurd y (by decide)⟩
          rw [nI_1]
          exact ih (k + 1) M2 i2 _ _ (by omega) (F1.tr F2) hT2 hP2 (clS_ok hFA e) (by rw [hp]; exact he)
        · rw [if_neg e] at he
          rw [he] at e hfl
          refine bPe_readClauses_26 M2 _ _ _ _ ⟨fun y => absurd rfl y, fun _ => ?_⟩
          exact h2 e M2 ((F1.mono XS_R).tr F2) hfl
  refine Ct.of rfl (Nat.le_of_ble_eq_true rfl) (bPe_readClauses_0 M _ _ ⟨hP.1, ?_⟩)
  have F0 : FrS (XS P) M (m_si M P 2 0) := FrS.si (Or.inl ⟨by omega, by omega⟩) _
  refine key 41 0 _ 0 0 (fun _ _ => 0) rfl F0 (hT.keepS (FrS.si (P := fun a _ => a = P) rfl _) (fun a j _ _ => by omega)) ⟨hP.of F0.2.1 F0.2.2.2.1, by rw [m_i_si, if_pos ⟨rfl, rfl⟩]; rfl, by omega, fun p w hp => absurd hp (by omega), fun p hp => absurd hp (by omega), hP1.1, hP1.2⟩ ⟨by omega, fun p hp => absurd hp (by omega)⟩ rfl
end CR2
