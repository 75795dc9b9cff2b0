/-! ===== a row: clauses; the order by minutes ===== -/
def posI (F0 b : Nat → Nat) (m : Nat) : Nat → Nat
  | 0 => 0
  | k + 1 => if m < F0 (b k) then posI F0 b m k else k + 1
def insB (b : Nat → Nat) (q p : Nat) : Nat → Nat := fun i => if i < q then b i else if i = q then p else b (i - 1)
/-- who stands where, of the first k -/
def byF (F0 : Nat → Nat) : Nat → Nat → Nat
  | 0 => fun _ => 0
  | k + 1 => insB (byF F0 k) (posI F0 (byF F0 k) (F0 k) k) k
theorem posI_ok (F0 b : Nat → Nat) (m : Nat) : ∀ k, posI F0 b m k ≤ k ∧ (∀ i, posI F0 b m k ≤ i → i < k → m < F0 (b i)) ∧ (0 < posI F0 b m k → F0 (b (posI F0 b m k - 1)) ≤ m)
  | 0 => ⟨Nat.le_refl _, fun i _ h => absurd h (by omega), fun h => absurd h (by show ¬ 0 < 0; omega)⟩
  | k + 1 => by
    obtain ⟨h1, h2, h3⟩ := posI_ok F0 b m k
    by_cases z : m < F0 (b k)
    · have e : posI F0 b m (k + 1) = posI F0 b m k := if_pos z
      rw [e]
      refine ⟨by omega, fun i h4 h5 => ?_, h3⟩
      by_cases y : i = k
      · rw [y]; exact z
      · exact h2 i h4 (by omega)
    · have e : posI F0 b m (k + 1) = k + 1 := if_neg z
      rw [e]
      exact ⟨Nat.le_refl _, fun i h4 h5 => absurd h5 (by omega), fun _ => by rw [Nat.add_sub_cancel]; omega⟩
theorem byF_ok (F : Nat → Nat → Nat) : ∀ k, BYok k F (byF (fun x => F x 0) k)
  | 0 => ⟨fun i h => absurd h (by omega), fun p h => absurd h (by omega), fun i j h1 h2 => absurd h2 (by omega)⟩
  | k + 1 => by
    obtain ⟨h1, h2, h3⟩ := byF_ok F k
    obtain ⟨g1, g2, g3⟩ := posI_ok (fun x => F x 0) (byF (fun x => F x 0) k) (F k 0) k
    show BYok (k + 1) F (insB (byF (fun x => F x 0) k) (posI (fun x => F x 0) (byF (fun x => F x 0) k) (F k 0) k) k)
    generalize byF (fun x => F x 0) k = b at h1 h2 h3 g1 g2 g3 ⊢
    generalize posI (fun x => F x 0) b (F k 0) k = q at g1 g2 g3 ⊢
    have lo : ∀ i, i < q → F (b i) 0 ≤ F k 0 := fun i hi => by
      have := g3 (by omega)
      by_cases z : i = q - 1
      · rw [z]; exact this
      · have := h3 i (q - 1) (by omega) (by omega)
        omega
    have e1 : ∀ i, i < q → insB b q k i = b i := fun i h => if_pos h
    have e2 : insB b q k q = k := by unfold insB; rw [if_neg (by omega), if_pos rfl]
    have e3 : ∀ i, q < i → insB b q k i = b (i - 1) := fun i h => by unfold insB; rw [if_neg (by omega), if_neg (by omega)]
    refine ⟨fun i hi => ?_, fun p hp => ?_, fun i j hij hj => ?_⟩
    · rcases Nat.lt_trichotomy i q with z | z | z
      · rw [e1 i z]; have := h1 i (by omega); omega
      · rw [z, e2]; omega
      · rw [e3 i z]; have := h1 (i - 1) (by omega); omega
    · by_cases z : p = k
      · exact ⟨q, by omega, by rw [e2, z]⟩
      · obtain ⟨j, hj, ej⟩ := h2 p (by omega)
        by_cases y : j < q
        · exact ⟨j, by omega, by rw [e1 j y]; exact ej⟩
        · exact ⟨j + 1, by omega, by rw [e3 (j + 1) (by omega), Nat.add_sub_cancel]; exact ej⟩
    · rcases Nat.lt_trichotomy i q with z | z | z
      · rw [e1 i z]
        rcases Nat.lt_trichotomy j q with y | y | y
        · rw [e1 j y]; exact h3 i j hij (by omega)
        · rw [y, e2]
          have := lo i z
          have := h1 i (by omega)
          omega
        · rw [e3 j y]
          have := lo i z
          have := g2 (j - 1) (by omega) (by omega)
          omega
      · rw [z, e2, e3 j (by omega)]
        have := g2 (j - 1) (by omega) (by omega)
        omega
      · rw [e3 i z, e3 j (by omega)]
        exact h3 (i - 1) (j - 1) (by omega) (by omega)
section CRW
variable {l : Launch} {G : Gx} {d : Nat} {bc bs : Nat} {Φ : OutV → Mm → Prop}
theorem ct_lineUp (M : Mm) {P np : Nat} {F : Nat → Nat → Nat} (hP : PErd M P np F) (hb : ∀ p, p < np → F p 0 < 100000) (hd : 0 < d) (h : ∀ M', FrS (fun a _ => a = P + 2) M M' → (∀ i, i < np → m_i M' (P + 2) i = nI (byF (fun x => F x 0) np i)) → Φ (.inl none) M') : Ct l G d mPe_lineUp bc bs [.ref P] M Φ := by
  obtain ⟨p0, p1, p2, p3, p4, p5, p6⟩ := id hP
  have inner : ∀ k, k < np → (∀ M1 u, FrS (fun a _ => a = P + 2) M M1 → (∀ i, i < k + 1 → m_i M1 (P + 2) i = nI (byF (fun x => F x 0) (k + 1) i)) → Ev l G d mPe_lineUp 2 [.ref P, .int (nI (k + 1)), u] [] M1 bc bs Φ) →
      ∀ a M1, a ≤ k → FrS (fun a _ => a = P + 2) M M1 → (∀ j, j < a → m_i M1 (P + 2) j = nI (byF (fun x => F x 0) k j)) → (∀ j, a < j → j ≤ k → m_i M1 (P + 2) j = nI (byF (fun x => F x 0) k (j - 1))) → posI (fun x => F x 0) (byF (fun x => F x 0) k) (F k 0) a = posI (fun x => F x 0) (byF (fun x => F x 0) k) (F k 0) k → Ev l G d mPe_lineUp 12 [.ref P, .int (nI k), .int (nI a)] [] M1 bc bs Φ := by
    intro k hk nxt
    have hbk := (byF_ok F k).1
    have put : ∀ a M1, a ≤ k → FrS (fun a _ => a = P + 2) M M1 → (∀ j, j < a → m_i M1 (P + 2) j = nI (byF (fun x => F x 0) k j)) → (∀ j, a < j → j ≤ k → m_i M1 (P + 2) j = nI (byF (fun x => F x 0) k (j - 1))) → a = posI (fun x => F x 0) (byF (fun x => F x 0) k) (F k 0) k → Ev l G d mPe_lineUp 58 [.ref P, .int (nI k), .int (nI a)] [] M1 bc bs Φ := by
      intro a M1 ha F1 h1 h2 hq
      obtain ⟨q0, q1, q2, s1, s2⟩ := p0.of F1.2.1 F1.2.2.2.1
      refine bPe_lineUp_58 M1 _ _ _ ⟨q0, by rw [q2, s2], by rw [q2, s2]; exact vp_in_nI (by omega) (by omega), ?_⟩
      rw [q2, nI_clamp (by omega), nI_1]
      refine nxt _ _ (F1.tr (FrS.si (P := fun a _ => a = P + 2) rfl _)) (fun i hi => ?_)
      rw [m_i_si]
      show _ = nI (insB (byF (fun x => F x 0) k) (posI (fun x => F x 0) (byF (fun x => F x 0) k) (F k 0) k) k i)
      rw [← hq]
      unfold insB
      rcases Nat.lt_trichotomy i a with z | z | z
      · rw [if_neg (by omega), if_pos z]; exact h1 i z
      · rw [if_pos ⟨rfl, z⟩, if_neg (by omega), if_pos z]
      · rw [if_neg (by omega), if_neg (by omega), if_neg (by omega)]; exact h2 i z (by omega)
    intro a
    induction a with
    | zero =>
      intro M1 ha F1 h1 h2 hq
      exact bPe_lineUp_12 M1 _ _ _ ⟨fun _ => put 0 M1 ha F1 h1 h2 hq, fun c => absurd (by decide) c⟩
    | succ a ih =>
      intro M1 ha F1 h1 h2 hq
      have pk := p0.of F1.2.1 F1.2.2.2.1
      obtain ⟨q0, q1, q2, s1, s2⟩ := id pk
      have em : nI (a + 1) - 1 = nI a := nI_pred a
      have hba := hbk a (by omega)
      refine bPe_lineUp_12 M1 _ _ _ ⟨fun c => absurd c (nI_nle (by omega) (by omega)), fun _ => ⟨q0, by rw [q2, s2], by rw [q2, s2, em]; exact vp_in_nI (by omega) (by omega), CallVC.cps0 (by omega) ?_⟩⟩
      rw [q2, em, nI_clamp (by omega), h1 a (by omega)]
      refine ct_fact M1 P _ 0 pk (by omega) (by omega) ?_
      refine bPe_lineUp_29 M1 _ _ _ _ ⟨q0, CallVC.cps0 (by omega) ?_⟩
      refine ct_fact M1 P k 0 pk (by omega) (by omega) ?_
      have v1 : m_i M1 (P + 1) (byF (fun x => F x 0) k a * 8 + 0) = nI (F (byF (fun x => F x 0) k a) 0) := by rw [F1.1 _ _ (by omega)]; exact p3 _ 0 (by omega) (by omega)
      have v2 : m_i M1 (P + 1) (k * 8 + 0) = nI (F k 0) := by rw [F1.1 _ _ (by omega)]; exact p3 _ 0 (by omega) (by omega)
      have b1 := hb (byF (fun x => F x 0) k a) (by omega)
      have b2 := hb k hk
      refine bPe_lineUp_35 M1 _ _ _ _ _ ⟨fun c => ?_, fun c => ?_⟩
      · rw [v1, v2, nI_leI (by omega) (by omega)] at c
        have e : posI (fun x => F x 0) (byF (fun x => F x 0) k) (F k 0) (a + 1) = a + 1 := if_neg (by show ¬ F k 0 < F _ 0; omega)
        exact put (a + 1) M1 ha F1 h1 h2 (by rw [← hq, e])
      · rw [v1, v2, nI_leI (by omega) (by omega)] at c
        have e : posI (fun x => F x 0) (byF (fun x => F x 0) k) (F k 0) (a + 1) = posI (fun x => F x 0) (byF (fun x => F x 0) k) (F k 0) a := if_pos (by show F k 0 < F _ 0; omega)
        refine ⟨q0, by rw [q2, s2], by rw [q2, s2, em]; exact vp_in_nI (by omega) (by omega), by rw [q2, s2]; exact vp_in_nI (by omega) (by omega), ?_⟩
        rw [q2, em, nI_clamp (by omega), nI_clamp (by omega), h1 a (by omega), pk_m1]
        refine ih _ (by omega) (F1.tr (FrS.si (P := fun a _ => a = P + 2) rfl _)) (fun j hj => ?_) (fun j hj hjk => ?_) (by rw [← hq, e])
        · rw [m_i_si, if_neg (by omega)]; exact h1 j (by omega)
        · rw [m_i_si]
          by_cases z : j = a + 1
          · rw [if_pos ⟨rfl, z⟩, z, Nat.add_sub_cancel]
          · rw [if_neg (by omega)]; exact h2 j (by omega) hjk
  have outer : ∀ c k M1 u, k + c = np → FrS (fun a _ => a = P + 2) M M1 → (∀ i, i < k → m_i M1 (P + 2) i = nI (byF (fun x => F x 0) k i)) → Ev l G d mPe_lineUp 2 [.ref P, .int (nI k), u] [] M1 bc bs Φ := by
    intro c
    induction c with
    | zero =>
      intro k M1 u hk F1 h1
      have hk' : k = np := by omega
      subst hk'
      have c1 : m_i M1 P 2 = nI k := by rw [F1.1 _ _ (by omega)]; exact p1
      exact bPe_lineUp_2 M1 _ _ _ ⟨(p0.of F1.2.1 F1.2.2.2.1).1, fun _ => h M1 F1 h1, fun c => absurd (by rw [c1]; exact nI_le (Nat.le_refl _) (by omega)) c⟩
    | succ c ih =>
      intro k M1 u hk F1 h1
      have c1 : m_i M1 P 2 = nI np := by rw [F1.1 _ _ (by omega)]; exact p1
      refine bPe_lineUp_2 M1 _ _ _ ⟨(p0.of F1.2.1 F1.2.2.2.1).1, fun c => absurd c (by rw [c1]; exact nI_not_le (by omega) (by omega)), fun _ => ?_⟩
      exact inner k (by omega) (fun M2 u2 F2 h2 => ih (k + 1) M2 u2 (by omega) F2 h2) k M1 (Nat.le_refl _) F1 h1 (fun j h3 h4 => absurd h4 (by omega)) rfl
  refine Ct.of rfl (Nat.le_of_ble_eq_true rfl) (bPe_lineUp_0 M _ ?_)
  exact outer np 0 M _ (by omega) (FrS.rf _ _) (fun i hi => absurd hi (by omega))
theorem rc_end (M M1 : Mm) {P n : Nat} {tp : Nat → Nat} {sz k w : Nat} {r : RR} (h : RdPost M P n tp sz (ecS n tp r) Φ) (F1 : FrS (XS P) M M1) (hd : 1 < d) (hP : 106 < P) :
    RdPost M1 P n tp sz r (fun o M2 => ∃ x, o = .inl (some (.int x)) ∧ Ev l G d mPe_readClause 125 [.ref P, .ref 102, .int (nI k), .ref w, .int 1, .int x] [] M2 bc bs Φ) := by
  unfold ecS at h
  refine ⟨fun e M2 i2 F2 hT2 hp hPd => ⟨1, rfl, ?_⟩, fun e M2 i2 F2 hT2 hfl => ⟨0, rfl, ?_⟩⟩
  · rw [if_pos e] at h
    refine bPe_readClause_125 M2 _ _ _ _ _ _ ⟨fun z => absurd z (by decide), fun _ => ⟨hT2.1.1, CallVC.cps0 (by omega) ?_⟩⟩
    refine ct_takeSign M2 hT2 59 ⟨by omega, by omega⟩ (fun ok M3 F3 hT3 => ?_) (fun bad M3 F3 hT3 hfl => ?_)
    · rw [hp] at ok
      rw [if_pos ok] at h
      refine bPe_readClause_136 M3 _ _ _ _ _ _ _ ⟨fun z => absurd z (by decide), fun _ => ?_⟩
      exact h.1 rfl M3 _ ((F1.tr F2).tr (F3.mono XB_S)) hT3 (by show nx n tp (tb n tp i2) = _; rw [hp]) (hPd.fr F3 XB_le)
    · rw [hp] at bad hfl
      rw [if_neg bad] at h
      refine bPe_readClause_136 M3 _ _ _ _ _ _ _ ⟨fun _ => ?_, fun z => absurd rfl z⟩
      exact h.2 (by show ¬ 1 = 0; decide) M3 _ (((F1.tr F2).mono XS_R).tr (F3.mono XA_R)) hT3 hfl
  · rw [if_neg e] at h
    refine bPe_readClause_125 M2 _ _ _ _ _ _ ⟨fun _ => ?_, fun z => absurd rfl z⟩
    exact h.2 e M2 _ ((F1.mono XS_R).tr F2) hT2 hfl
theorem RdPost.im {M : Mm} {P n : Nat} {tp : Nat → Nat} {sz : Nat} {r : RR} {Φ Ψ : OutV → Mm → Prop} (h : RdPost M P n tp sz r Φ) (hi : ∀ o M', Φ o M' → Ψ o M') : RdPost M P n tp sz r Ψ :=
  ⟨fun e M' i' a b c d => hi _ _ (h.1 e M' i' a b c d), fun e M' i' a b c => hi _ _ (h.2 e M' i' a b c)⟩
theorem ct_readClause (M : Mm) {P n : Nat} {tp : Nat → Nat} {sz i np k : Nat} {F : Nat → Nat → Nat} (hT : TKS M n tp sz i) (hP : PErd M P np F) (hk : k ≤ 40) (hd : 2 < d) (h : RdPost M P n tp sz (clS n tp k (tb n tp i) np F) Φ) : Ct l G d mPe_readClause bc bs [.ref P, .ref 102, .int (nI k)] M Φ := by
  obtain ⟨p0, p1, p2, p3, p4, p5, p6⟩ := id hP
  have hw := wd_rng n tp (tb n tp i)
  unfold clS at h
  refine Ct.of rfl (Nat.le_of_ble_eq_true rfl) (bPe_readClause_0 M _ _ _ ⟨hT.1.1, CallVC.cps0 (by omega) (ct_here M hT ?_)⟩)
  by_cases hkn : wd n tp (tb n tp i) = 2 ∨ wd n tp (tb n tp i) = 3 ∨ wd n tp (tb n tp i) = 4 ∨ wd n tp (tb n tp i) = 5
  · rw [if_pos hkn] at h
    have hne := wd_k (n := n) (tp := tp) (p := tb n tp i) (by omega)
    generalize hww : wd n tp (tb n tp i) = w at hw hkn h ⊢
    have go : ∀ u4 u5, Ev l G d mPe_readClause 33 [.ref P, .ref 102, .int (nI k), .ref w, u4, u5] [] M bc bs Φ := fun u4 u5 => by
      have tm : (40 ≤ k ∨ (w = 2 ∧ 8 ≤ np)) → ∀ u, Ev l G d mPe_readClause 73 [.ref P, .ref 102, .int (nI k), .ref w, .int 1, u] [] M bc bs Φ := fun hc u => by
        rw [if_pos hc] at h
        refine bPe_readClause_73 M _ _ _ _ _ _ ⟨hT.1.1, CallVC.cps0 (by omega) (ct_fail M hT 3 3 rfl (fun M2 F2 hT2 hfl => ?_))⟩
        refine bPe_readClause_78 M2 _ _ _ _ _ _ _ ⟨rfl, ?_⟩
        exact h.2 (by show ¬ 3 = 0; decide) M2 _ (F2.mono XA_R) hT2 hfl
      have ok : ¬ (40 ≤ k ∨ (w = 2 ∧ 8 ≤ np)) → ∀ u, Ev l G d mPe_readClause 79 [.ref P, .ref 102, .int (nI k), .ref w, .int 1, u] [] M bc bs Φ := fun hc u => by
        rw [if_neg hc] at h
        refine bPe_readClause_79 M _ _ _ _ _ _ ⟨hT.1.1, CallVC.cps0 (by omega) (ct_goOn M hT hne (fun M2 F2 hT2 => ?_))⟩
        have hP2 := hP.fr F2 XB_le
        have enx : nx n tp (tb n tp i) = tb n tp (i + 1) := rfl
        rw [enx] at h
        refine bPe_readClause_83 M2 _ _ _ _ _ _ ⟨hw, fun z => ⟨fun z2 => ⟨hP2.1.1, CallVC.cps0 (by omega) ?_⟩, fun z2 => ⟨hP2.1.1, CallVC.cps0 (by omega) ?_⟩⟩, fun z => ⟨hP2.1.1, CallVC.cps0 (by omega) ?_⟩⟩
        · rw [if_neg z, if_neg z2] at h
          exact ct_readHabit M2 w (by omega) hT2 hP2 (by omega) ((rc_end (l := l) (G := G) (d := d) (bc := bc) (bs := bs) (k := k) (w := w) M M2 h (F2.mono XB_S) (by omega) p5).im (fun o M3 ⟨x, e, hx⟩ => by subst e; exact bPe_readClause_123 M3 _ _ _ _ _ _ _ hx))
        · rw [if_neg z, if_pos z2] at h
          exact ct_readKnows M2 hT2 hP2 (by omega) ((rc_end (l := l) (G := G) (d := d) (bc := bc) (bs := bs) (k := k) (w := w) M M2 h (F2.mono XB_S) (by omega) p5).im (fun o M3 ⟨x, e, hx⟩ => by subst e; exact bPe_readClause_112 M3 _ _ _ _ _ _ _ hx))
        · rw [if_pos z] at h
          exact ct_readPerson M2 hT2 hP2 (by omega) (by omega) ((rc_end (l := l) (G := G) (d := d) (bc := bc) (bs := bs) (k := k) (w := w) M M2 h (F2.mono XB_S) (by omega) p5).im (fun o M3 ⟨x, e, hx⟩ => by subst e; exact bPe_readClause_95 M3 _ _ _ _ _ _ _ hx))
      refine bPe_readClause_33 M _ _ _ _ _ _ ⟨fun c => tm (Or.inl ((nI_leI (a := 40) (by omega) (by omega)).mp c)) _, fun c => ⟨hw, fun z => ok ?_ _, fun z => ⟨p0.1, fun c2 => ok ?_ _, fun c2 => tm ?_ _⟩⟩⟩
      · have : ¬ 40 ≤ k := fun y => c ((nI_leI (a := 40) (b := k) (by omega) (by omega)).mpr y)
        omega
      · have : ¬ 40 ≤ k := fun y => c ((nI_leI (a := 40) (b := k) (by omega) (by omega)).mpr y)
        rw [p1] at c2
        have : np < 8 := (nI_ltI (b := 8) (by omega) (by omega)).mp c2
        omega
      · rw [p1] at c2
        have : ¬ np < 8 := fun y => c2 ((nI_ltI (a := np) (b := 8) (by omega) (by omega)).mpr y)
        omega
    refine bPe_readClause_4 M _ _ _ _ _ _ _ ⟨hw, fun _ => go _ _, fun z1 => ⟨fun _ => go _ _, fun z2 => ⟨fun _ => go _ _, fun z3 => ⟨fun z4 => ?_, fun _ => go _ _⟩⟩⟩⟩
    omega
  · rw [if_neg hkn] at h
    refine bPe_readClause_4 M _ _ _ _ _ _ _ ⟨hw, fun z => absurd (Or.inl z) hkn, fun _ => ⟨fun z => absurd (Or.inr (Or.inl z)) hkn, fun _ => ⟨fun z => absurd (Or.inr (Or.inr (Or.inl z))) hkn, fun _ => ⟨fun _ => ⟨hT.1.1, CallVC.cps0 (by omega) (ct_fail M hT 1 1 rfl (fun M2 F2 hT2 hfl => ?_))⟩, fun z => absurd (Or.inr (Or.inr (Or.inr z))) hkn⟩⟩⟩⟩
    refine bPe_readClause_50 M2 _ _ _ _ _ _ _ ⟨rfl, ?_⟩
    exact h.2 (by show ¬ 1 = 0; decide) M2 _ (F2.mono XA_R) hT2 hfl
end CRW
