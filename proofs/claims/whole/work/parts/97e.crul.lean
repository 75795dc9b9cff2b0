/-! ===== Law: rules ===== -/
def kdN (w : Nat) : Nat := (wM w).toNatClampNeg
def loW (w : Nat) : Nat := (wLo w).toNatClampNeg
def hiW (w : Nat) : Nat := (wHi w).toNatClampNeg + 1
def kdB (w : Nat) : Bool := decide (wM w ≤ 0) || (decide (wM w = nI (kdN w)) && decide (2 ≤ kdN w) && decide (kdN w ≤ 9) && (decide (w = 12) && decide (kdN w = 8) || decide (w = 13) && decide (kdN w = 9) || decide (kdN w < 8) && decide (w ≠ 12) && decide (w ≠ 13)) && decide (wLo w = nI (loW w)) && decide (loW w < 100000) && decide ((wHi w).toInt = (hiW w : Int) - 1) &&
  (decide (8 ≤ kdN w) || ((decide (kdN w ≠ 2) || decide (1 ≤ loW w) && decide (hiW w ≤ 100)) && (decide (kdN w ≠ 3) || decide (1 ≤ loW w) && decide (hiW w ≤ 10)) && (decide (kdN w ≠ 6) || decide (hiW w ≤ 10)) && (decide (kdN w ≠ 7) || decide (1 ≤ loW w)) && decide (hiW w ≤ 1000))))
theorem kdB_ok : ∀ w, (1 ≤ w ∧ w ≤ 23) → kdB w = true := w_all (p := kdB) (by decide +kernel)
theorem kd_all (w : Nat) (hw : 1 ≤ w ∧ w ≤ 23) (h : 0 < wM w) : ((wM w = nI (kdN w) ∧ 2 ≤ kdN w ∧ kdN w ≤ 9) ∧ (w = 12 ∧ kdN w = 8 ∨ w = 13 ∧ kdN w = 9 ∨ (kdN w < 8 ∧ ¬ w = 12 ∧ ¬ w = 13)) ∧ (wLo w = nI (loW w) ∧ loW w < 100000 ∧ (wHi w).toInt = (hiW w : Int) - 1)) ∧ (kdN w < 8 → (kdN w = 2 → 1 ≤ loW w ∧ hiW w ≤ 100) ∧ (kdN w = 3 → 1 ≤ loW w ∧ hiW w ≤ 10) ∧ (kdN w = 6 → hiW w ≤ 10) ∧ (kdN w = 7 → 1 ≤ loW w) ∧ hiW w ≤ 1000) := by
  have k := kdB_ok w hw
  unfold kdB at k
  simp only [Bool.or_eq_true, Bool.and_eq_true, decide_eq_true_eq] at k
  rcases k with k | ⟨⟨⟨⟨⟨⟨⟨k1, k2⟩, k3⟩, k4⟩, k5⟩, k6⟩, k7⟩, k8⟩
  · exact absurd h (Int32.not_lt.mpr k)
  · refine ⟨⟨⟨k1, k2, k3⟩, ?_, k5, k6, k7⟩, fun z => ?_⟩
    · rcases k4 with (k4 | k4) | k4
      · exact Or.inl k4
      · exact Or.inr (Or.inl k4)
      · exact Or.inr (Or.inr ⟨k4.1.1, k4.1.2, k4.2⟩)
    · rcases k8 with k8 | ⟨⟨⟨⟨q1, q2⟩, q3⟩, q4⟩, q5⟩
      · omega
      · exact ⟨fun y => q1.resolve_left (fun n => n y), fun y => q2.resolve_left (fun n => n y), fun y => q3.resolve_left (fun n => n y), fun y => q4.resolve_left (fun n => n y), q5⟩
/-- a RULE: fault, place, the RULE -/
abbrev RLt : Type := Nat × Nat × RU
def codP (w : Nat) (r : Pr) : RLt := (r.1, r.2.1, kdN w, 0, r.2.2)
def rbS (n : Nat) (tp : Nat → Nat) (w p : Nat) : RLt :=
  if w = 13 then codP w (orF n tp (clmS n tp 6) p) else if w = 12 then codP w (sumS n tp 6 p) else if nOK n tp (loW w) (hiW w) p then (0, nx n tp p, kdN w, cvl n tp p, []) else (fcd n tp p, p, kdN w, 0, [])
def enR (n : Nat) (tp : Nat → Nat) (r : RLt) : RLt := if r.1 = 0 then (if sg n tp r.2.1 = 59 then (0, nx n tp r.2.1, r.2.2) else (1, r.2)) else r
def ruS (n : Nat) (tp : Nat → Nat) (cnt p : Nat) : RLt :=
  if 0 < wM (wd n tp p) then (if 10 ≤ cnt then (3, p, ru0) else enR n tp (rbS n tp (wd n tp p) (nx n tp p))) else (1, p, ru0)
def rlF (n : Nat) (tp : Nat → Nat) : Nat → Nat → List RU → Nat × Nat × List RU
  | 0, p, R => (0, p, R)
  | c + 1, p, R => if tk n tp p = 0 then (0, p, R) else if (ruS n tp R.length p).1 = 0 then rlF n tp c (ruS n tp R.length p).2.1 (R ++ [(ruS n tp R.length p).2.2]) else ((ruS n tp R.length p).1, (ruS n tp R.length p).2.1, [])
def rlS (n : Nat) (tp : Nat → Nat) : Nat × Nat × List RU := rlF n tp 11 (rn n tp isb 0) []
def XMs (A : Nat) : Nat → Nat → Prop := fun a j => (A ≤ a ∧ a ≤ A + 5) ∨ XB a j
def XMf (A : Nat) : Nat → Nat → Prop := fun a j => (A ≤ a ∧ a ≤ A + 5) ∨ XA a j
theorem XMs_f {A : Nat} : ∀ a j, XMs A a j → XMf A a j := fun a j h => by unfold XMs XB at h; unfold XMf XA; omega
theorem XA_Mf {A : Nat} : ∀ a j, XA a j → XMf A a j := fun _ _ h => Or.inr h
theorem XB_Ms {A : Nat} : ∀ a j, XB a j → XMs A a j := fun _ _ h => Or.inr h
theorem XLs_Ms {A : Nat} : ∀ a j, XLs A a j → XMs A a j := fun a j h => by unfold XLs XB at h; unfold XMs XB; omega
theorem XLf_Mf {A : Nat} : ∀ a j, XLf A a j → XMf A a j := fun a j h => by unfold XLf XA at h; unfold XMf XA; omega
/-- one RULE as it lies there -/
def R1 (M : Mm) (A k i : Nat) (r : RU) : Prop := m_i M (A + 1) i = nI r.1 ∧ (r.1 < 8 → m_i M (A + 2) i = nI r.2.1) ∧ ∃ i0, m_i M (A + 3) i = nI i0 ∧ m_i M (A + 4) i = nI (i0 + r.2.2.length) ∧ i0 + r.2.2.length ≤ k ∧ ∀ j, j < r.2.2.length → m_i M (A + 5) (i0 + j) = stL r.2.2 j
def LAr (M : Mm) (A k : Nat) (R : List RU) : Prop := LAst M A k ∧ m_i M A 7 = nI R.length ∧ R.length ≤ 10 ∧ ∀ i, i < R.length → R1 M A k i (R.getD i ru0)
theorem LAr.rep {M : Mm} {A k : Nat} {R : List RU} (h : LAr M A k R) : LArep M A R := by
  obtain ⟨h1, h2, h3, h4⟩ := h
  have h5 := h1.2.2.1
  refine ⟨h2, h3, fun i hi => ?_⟩
  obtain ⟨g1, g2, i0, g3, g4, g5, g6⟩ := h4 i hi
  exact ⟨g1, g2, i0, g3, g4, by omega, g6⟩
theorem R1.fr {M M' : Mm} {A k k' i : Nat} {r : RU} (h : R1 M A k i r) (hk : k ≤ k') (h1 : ∀ a, A + 1 ≤ a → a ≤ A + 4 → m_i M' a i = m_i M a i) (h2 : ∀ j, j < k → m_i M' (A + 5) j = m_i M (A + 5) j) : R1 M' A k' i r := by
  obtain ⟨g1, g2, i0, g3, g4, g5, g6⟩ := h
  exact ⟨by rw [h1 _ (by omega) (by omega)]; exact g1, fun z => by rw [h1 _ (by omega) (by omega)]; exact g2 z, i0, by rw [h1 _ (by omega) (by omega)]; exact g3, by rw [h1 _ (by omega) (by omega)]; exact g4, by omega, fun j hj => by rw [h2 _ (by omega)]; exact g6 j hj⟩
theorem getD_l {R : List RU} {r : RU} {i : Nat} (h : i < R.length) : (R ++ [r]).getD i ru0 = R.getD i ru0 := by
  rw [List.getD_eq_getElem?_getD, List.getD_eq_getElem?_getD, List.getElem?_append_left h]
theorem getD_e {R : List RU} {r : RU} : (R ++ [r]).getD R.length ru0 = r := by
  rw [List.getD_eq_getElem?_getD, List.getElem?_append_right (Nat.le_refl _), Nat.sub_self]
  rfl
def RlPost (M : Mm) (A n : Nat) (tp : Nat → Nat) (sz : Nat) (R : List RU) (r : RLt) (Φ : OutV → Mm → Prop) : Prop :=
  (r.1 = 0 → ∀ M' i' k', FrS (XMs A) M M' → TKS M' n tp sz i' → tb n tp i' = r.2.1 → LAr M' A k' (R ++ [r.2.2]) → k' ≤ i' → Φ (.inl (some (.int 1))) M') ∧ (¬ r.1 = 0 → ∀ M', FrS (XMf A) M M' → FLT M' r.1 r.2.1 → Φ (.inl (some (.int 0))) M')
section CRU
variable {l : Launch} {G : Gx} {d : Nat} {bc bs : Nat} {Φ : OutV → Mm → Prop}
/-- what a RULE's reading has laid before its body -/
def RB (M M2 : Mm) (A k w : Nat) (R : List RU) : Prop := FrS (XMs A) M M2 ∧ (∀ a j, A + 1 ≤ a → a ≤ A + 4 → j < R.length → m_i M2 a j = m_i M a j) ∧ (∀ j, m_i M2 (A + 5) j = m_i M (A + 5) j) ∧ m_i M2 A 7 = nI R.length ∧ m_i M2 (A + 1) R.length = nI (kdN w) ∧ m_i M2 (A + 3) R.length = nI k
theorem rr_lar {M M2 M3 M4 : Mm} {A k k3 w : Nat} {R : List RU} {r : RU} {S : List Int32} (hB : RB M M2 A k w R) (hA : LAr M A k R) (hl : R.length < 10) (ekd : r.1 = kdN w) (eS : r.2.2 = S) (hk3 : k3 = k + S.length) (hst4 : LAst M4 A k3) (F4 : FrS (fun a j => (a = A + 4 ∧ j = R.length) ∨ (a = A ∧ j = 7)) M3 M4) (v4 : m_i M4 (A + 4) R.length = nI k3) (v7 : m_i M4 A 7 = nI (R.length + 1)) (hfix : ∀ a j, A + 1 ≤ a → a ≤ A + 4 → ¬ (a = A + 2 ∧ j = R.length) → m_i M3 a j = m_i M2 a j) (hnum : kdN w < 8 → m_i M3 (A + 2) R.length = nI r.2.1) (hlo : ∀ j, j < k → m_i M3 (A + 5) j = m_i M2 (A + 5) j) (hhi : ∀ j, j < S.length → m_i M3 (A + 5) (k + j) = stL S j) : LAr M4 A k3 (R ++ [r]) := by
  obtain ⟨-, b2, b3, -, v1, v3⟩ := hB
  obtain ⟨-, -, -, hrs⟩ := hA
  refine ⟨hst4, by rw [List.length_append, List.length_singleton]; exact v7, by rw [List.length_append, List.length_singleton]; omega, fun j hj => ?_⟩
  rw [List.length_append, List.length_singleton] at hj
  by_cases z : j = R.length
  · subst z
    rw [getD_e]
    refine ⟨?_, fun y => ?_, k, ?_, ?_, by rw [eS]; omega, fun q hq => ?_⟩
    · rw [F4.1 _ _ (by omega), hfix _ _ (by omega) (by omega) (by omega), v1, ekd]
    · rw [F4.1 _ _ (by omega)]; exact hnum (by rw [← ekd]; exact y)
    · rw [F4.1 _ _ (by omega), hfix _ _ (by omega) (by omega) (by omega), v3]
    · rw [v4, hk3, eS]
    · rw [eS] at hq ⊢
      rw [F4.1 _ _ (by omega)]; exact hhi q hq
  · rw [getD_l (by omega)]
    refine (hrs j (by omega)).fr (by omega) (fun a h1 h2 => ?_) (fun q hq => ?_)
    · rw [F4.1 _ _ (by omega), hfix _ _ h1 h2 (by omega), b2 _ _ h1 h2 (by omega)]
    · rw [F4.1 _ _ (by omega), hlo q hq, b3]
theorem rr_fin1 {M M2 M3 : Mm} {A n : Nat} {tp : Nat → Nat} {sz i3 k k3 w : Nat} {R : List RU} {r : RLt} {S : List Int32} (hp : RlPost M A n tp sz R (enR n tp r) Φ) (hB : RB M M2 A k w R) (hA : LAr M A k R) (hl : R.length < 10) (hd : 1 < d) (e0 : r.1 = 0) (ekd : r.2.2.1 = kdN w) (eS : r.2.2.2.2 = S) (F3 : FrS (XMs A) M2 M3) (hT3 : TKS M3 n tp sz i3) (hpos3 : tb n tp i3 = r.2.1) (hst3 : LAst M3 A k3) (hk3 : k3 = k + S.length) (hk3i : k3 ≤ i3) (hfix : ∀ a j, A + 1 ≤ a → a ≤ A + 4 → ¬ (a = A + 2 ∧ j = R.length) → m_i M3 a j = m_i M2 a j) (h7 : m_i M3 A 7 = m_i M2 A 7) (hnum : kdN w < 8 → m_i M3 (A + 2) R.length = nI r.2.2.2.1) (hlo : ∀ j, j < k → m_i M3 (A + 5) j = m_i M2 (A + 5) j) (hhi : ∀ j, j < S.length → m_i M3 (A + 5) (k + j) = stL S j) : Ev l G d mLa_readRule 144 [.ref A, .ref 102, .ref w, .int 1] [] M3 bc bs Φ := by
  have hc3 : m_i M3 A 7 = nI R.length := h7.trans hB.2.2.2.1
  obtain ⟨⟨b0, b1, b2, b3, b4, b5, b6, t1, t2, t3, t4, t5, t6⟩, q6, q5, hA1, hA2⟩ := id hst3
  have ec : (nI R.length).toNatClampNeg = R.length := nI_clamp (by omega)
  have hin : vp_in (nI R.length) 10 := vp_in_nI (by omega) (by omega)
  clear b1 b2 b3 b5 b6 t1 t2 t3 t5 t6
  refine bLa_readRule_144 M3 _ _ _ _ ⟨b0, by rw [b4, t4], by rw [b4, t4, hc3]; exact hin, ?_⟩
  rw [b4, hc3, ec, q6, m_i_si, if_neg (by omega), hc3, nI_1]
  have F4 : FrS (fun a j => (a = A + 4 ∧ j = R.length) ∨ (a = A ∧ j = 7)) M3 (m_si (m_si M3 (A + 4) R.length (nI k3)) A 7 (nI (R.length + 1))) := (FrS.si (P := fun a j => (a = A + 4 ∧ j = R.length) ∨ (a = A ∧ j = 7)) (Or.inl ⟨rfl, rfl⟩) _).tr (FrS.si (Or.inr ⟨rfl, rfl⟩) _)
  have v4 : m_i (m_si (m_si M3 (A + 4) R.length (nI k3)) A 7 (nI (R.length + 1))) (A + 4) R.length = nI k3 := by rw [m_i_si, if_neg (by omega), m_i_si, if_pos ⟨rfl, rfl⟩]
  have v7 : m_i (m_si (m_si M3 (A + 4) R.length (nI k3)) A 7 (nI (R.length + 1))) A 7 = nI (R.length + 1) := by rw [m_i_si, if_pos ⟨rfl, rfl⟩]
  generalize m_si (m_si M3 (A + 4) R.length (nI k3)) A 7 (nI (R.length + 1)) = M4 at F4 v4 v7 ⊢
  have hT4 : TKS M4 n tp sz i3 := hT3.keepS F4 (fun a j _ _ => by omega)
  have hst4 : LAst M4 A k3 := ⟨hst3.1.of F4.2.1 F4.2.2.2.1, by rw [F4.1 _ _ (by omega)]; exact q6, q5, hA1, hA2⟩
  have hLr := rr_lar hB hA hl ekd eS hk3 hst4 F4 v4 v7 hfix hnum hlo hhi
  have F4m : FrS (XMs A) M3 M4 := F4.mono (fun a j z => by unfold XMs; omega)
  refine bLa_readRule_167 M4 _ _ _ _ ⟨fun z => absurd z (by decide), fun _ => ⟨hT4.1.1, CallVC.cps0 (by omega) ?_⟩⟩
  unfold enR at hp
  rw [if_pos e0] at hp
  refine ct_takeSign M4 hT4 59 (by omega) (fun ok M5 F5 hT5 => ?_) (fun bad M5 F5 hT5 hfl => ?_)
  · rw [hpos3] at ok
    rw [if_pos ok] at hp
    refine bLa_readRule_177 M5 _ _ _ _ _ ⟨fun z => absurd z (by decide), fun _ => ?_⟩
    have nb : ∀ a j, A ≤ a → m_i M5 a j = m_i M4 a j := fun a j h => F5.1 _ _ (by unfold XB; omega)
    refine hp.1 rfl M5 (i3 + 1) k3 (((hB.1.tr F3).tr F4m).tr (F5.mono XB_Ms)) hT5 (by show nx n tp (tb n tp i3) = _; rw [hpos3]) ⟨hst4.fr F5 XB_le, by rw [nb _ _ (by omega)]; exact hLr.2.1, hLr.2.2.1, fun j hj => (hLr.2.2.2 j hj).fr (Nat.le_refl _) (fun a h1 h2 => nb _ _ (by omega)) (fun q hq => nb _ _ (by omega))⟩ (by omega)
  · rw [hpos3] at bad hfl
    rw [if_neg bad] at hp
    refine bLa_readRule_177 M5 _ _ _ _ _ ⟨fun _ => ?_, fun z => absurd rfl z⟩
    exact hp.2 (by show ¬ 1 = 0; decide) M5 ((((hB.1.tr F3).tr F4m).mono XMs_f).tr (F5.mono XA_Mf)) hfl
theorem rr_fin0 {M M2 M3 : Mm} {A n : Nat} {tp : Nat → Nat} {sz k w : Nat} {R : List RU} {r : RLt} (hp : RlPost M A n tp sz R (enR n tp r) Φ) (hB : RB M M2 A k w R) (hA1 : 106 < A) (hl : R.length < 10) (e0 : ¬ r.1 = 0) (F3 : FrS (XMf A) M2 M3) (hok3 : LAok M3 A) (h7 : m_i M3 A 7 = m_i M2 A 7) (hfl : FLT M3 r.1 r.2.1) : Ev l G d mLa_readRule 144 [.ref A, .ref 102, .ref w, .int 0] [] M3 bc bs Φ := by
  have hc3 : m_i M3 A 7 = nI R.length := h7.trans hB.2.2.2.1
  obtain ⟨b0, b1, b2, b3, b4, b5, b6, t1, t2, t3, t4, t5, t6⟩ := hok3
  have ec : (nI R.length).toNatClampNeg = R.length := nI_clamp (by omega)
  have hin : vp_in (nI R.length) 10 := vp_in_nI (by omega) (by omega)
  clear b1 b2 b3 b5 b6 t1 t2 t3 t5 t6
  refine bLa_readRule_144 M3 _ _ _ _ ⟨b0, by rw [b4, t4], by rw [b4, t4, hc3]; exact hin, ?_⟩
  rw [b4, hc3, ec, m_i_si, if_neg (by omega), hc3, nI_1]
  generalize m_i M3 A 6 = v6
  have F4 : FrS (XMf A) M3 (m_si (m_si M3 (A + 4) R.length v6) A 7 (nI (R.length + 1))) := (FrS.si (P := XMf A) (Or.inl ⟨by omega, by omega⟩) _).tr (FrS.si (Or.inl ⟨by omega, by omega⟩) _)
  have f6 : m_i (m_si (m_si M3 (A + 4) R.length v6) A 7 (nI (R.length + 1))) 102 6 = m_i M3 102 6 := by rw [m_i_si, if_neg (by omega), m_i_si, if_neg (by omega)]
  have f7 : m_i (m_si (m_si M3 (A + 4) R.length v6) A 7 (nI (R.length + 1))) 102 7 = m_i M3 102 7 := by rw [m_i_si, if_neg (by omega), m_i_si, if_neg (by omega)]
  generalize m_si (m_si M3 (A + 4) R.length v6) A 7 (nI (R.length + 1)) = M4 at F4 f6 f7 ⊢
  refine bLa_readRule_167 _ _ _ _ _ ⟨fun _ => ?_, fun z => absurd rfl z⟩
  unfold enR at hp
  rw [if_neg e0] at hp
  exact hp.2 e0 _ (((hB.1.mono XMs_f).tr F3).tr F4) ⟨f6.trans hfl.1, f7.trans hfl.2⟩
theorem ct_readRule (M : Mm) {A n : Nat} {tp : Nat → Nat} {sz i k : Nat} {R : List RU} (hT : TKS M n tp sz i) (hA : LAr M A k R) (hki : k ≤ i) (hd : 25 < d) (hp : RlPost M A n tp sz R (ruS n tp R.length (tb n tp i)) Φ) : Ct l G d mLa_readRule bc bs [.ref A, .ref 102] M Φ := by
  obtain ⟨hst, hc, hR10, hrs⟩ := id hA
  obtain ⟨hok, hk6, hk5, hA1, hA2⟩ := id hst
  have hw := wd_rng n tp (tb n tp i)
  unfold ruS at hp
  refine Ct.of rfl (Nat.le_of_ble_eq_true rfl) (bLa_readRule_0 M _ _ ⟨hT.1.1, CallVC.cps0 (by omega) (ct_here M hT ?_)⟩)
  refine bLa_readRule_4 M _ _ _ _ _ ⟨hw, fun hpos => ⟨hok.1, fun hlt => ⟨hT.1.1, CallVC.cps0 (by omega) ?_⟩, fun hge => ⟨hT.1.1, CallVC.cps0 (by omega) ?_⟩⟩, fun hneg => ⟨hT.1.1, CallVC.cps0 (by omega) ?_⟩⟩
  · rw [if_pos hpos] at hp
    rw [hc] at hlt
    have hl10 : R.length < 10 := (nI_ltI (b := 10) (by omega) (by omega)).mp hlt
    rw [if_neg (by omega)] at hp
    have hk0 : ¬ tk n tp (tb n tp i) = 0 := wd_k (fun y => by rw [y] at hpos; exact absurd hpos (by decide))
    generalize hww : wd n tp (tb n tp i) = w at hw hpos hp ⊢
    obtain ⟨⟨⟨w1, w2, w3⟩, w4, w5, w6, w7⟩, -⟩ := kd_all w hw hpos
    refine ct_goOn M hT hk0 (fun M1 F1 hT1 => ?_)
    have hst1 := hst.fr F1 XB_le
    have hc1 : m_i M1 A 7 = nI R.length := by rw [F1.1 _ _ (by unfold XB; omega)]; exact hc
    obtain ⟨⟨a0, a1, a2, a3, a4, a5, a6, s1, s2, s3, s4, s5, s6⟩, g6, -⟩ := id hst1
    have hin : vp_in (nI R.length) 10 := vp_in_nI (by omega) (by omega)
    refine bLa_readRule_37 M1 _ _ _ _ ⟨a0, hw, by rw [a1, s1], by rw [a1, s1, hc1]; exact hin, by rw [a3, s3], by rw [a1, a3, s3, m_i_si, if_neg (by omega), hc1]; exact hin, ?_⟩
    have ec : (nI R.length).toNatClampNeg = R.length := nI_clamp (by omega)
    rw [a1, a3, hc1, ec, m_i_si, if_neg (by omega), hc1, ec, m_i_si, if_neg (by omega), g6, w1]
    have F2 : FrS (XMs A) M1 (m_si (m_si M1 (A + 1) R.length (nI (kdN w))) (A + 3) R.length (nI k)) := (FrS.si (P := XMs A) (Or.inl ⟨by omega, by omega⟩) _).tr (FrS.si (Or.inl ⟨by omega, by omega⟩) _)
    have F2' : FrS (fun a j => (a = A + 1 ∨ a = A + 3) ∧ j = R.length) M1 (m_si (m_si M1 (A + 1) R.length (nI (kdN w))) (A + 3) R.length (nI k)) := (FrS.si (P := fun a j => (a = A + 1 ∨ a = A + 3) ∧ j = R.length) ⟨Or.inl rfl, rfl⟩ _).tr (FrS.si ⟨Or.inr rfl, rfl⟩ _)
    have v1 : m_i (m_si (m_si M1 (A + 1) R.length (nI (kdN w))) (A + 3) R.length (nI k)) (A + 1) R.length = nI (kdN w) := by rw [m_i_si, if_neg (by omega), m_i_si, if_pos ⟨rfl, rfl⟩]
    have v3 : m_i (m_si (m_si M1 (A + 1) R.length (nI (kdN w))) (A + 3) R.length (nI k)) (A + 3) R.length = nI k := by rw [m_i_si, if_pos ⟨rfl, rfl⟩]
    generalize m_si (m_si M1 (A + 1) R.length (nI (kdN w))) (A + 3) R.length (nI k) = M2 at F2 F2' v1 v3 ⊢
    have hT2 : TKS M2 n tp sz (i + 1) := hT1.keepS F2' (fun a j _ _ => by omega)
    have hst2 : LAst M2 A k := ⟨hst1.1.of F2.2.1 F2.2.2.2.1, by rw [F2'.1 _ _ (by omega)]; exact g6, hk5, hA1, hA2⟩
    have F12 : FrS (XMs A) M M2 := (F1.mono XB_Ms).tr F2
    have enx : nx n tp (tb n tp i) = tb n tp (i + 1) := rfl
    rw [enx] at hp
    clear a0 a1 a2 a3 a4 a5 a6 s1 s2 s3 s4 s5 s6
    have hB : RB M M2 A k w R := ⟨F12, fun a j h1 h2 h3 => by rw [F2'.1 _ _ (by omega), F1.1 _ _ (by unfold XB; omega)], fun j => by rw [F2'.1 _ _ (by omega), F1.1 _ _ (by unfold XB; omega)], by rw [F2'.1 _ _ (by omega)]; exact hc1, v1, v3⟩
    -- steps
    have stp : ∀ (f : Nat → Pr), rbS n tp w (tb n tp (i + 1)) = codP w (f (tb n tp (i + 1))) → 8 ≤ kdN w → LdPost M2 A n tp sz (i + 1) k (f (tb n tp (i + 1))) (fun o M3 => ∃ v, o = .inl (some (.int v)) ∧ Ev l G d mLa_readRule 144 [.ref A, .ref 102, .ref w, .int v] [] M3 bc bs Φ) := fun f hf h8 => by
      have hp' := hp
      rw [hf] at hp'
      refine ⟨fun e M3 i3 F3 hT3 hpos3 hi3 hst3 g1 g2 => ⟨1, rfl, ?_⟩, fun e M3 i3 k3 F3 hT3 hfl hst3 => ⟨0, rfl, ?_⟩⟩
      · exact rr_fin1 hp' hB hA hl10 (by omega) e rfl rfl (F3.mono XLs_Ms) hT3 hpos3 hst3 rfl (by omega) (fun a j h1 h2 _ => F3.1 _ _ (by unfold XLs XB; omega)) (F3.1 _ _ (by unfold XLs XB; omega)) (fun z => absurd z (by omega)) g1 g2
      · exact rr_fin0 hp' hB hA1 hl10 e (F3.mono XLf_Mf) hst3.1 (F3.1 _ _ (by unfold XLf XA; omega)) hfl
    refine bLa_readRule_63 M2 _ _ _ _ ⟨hw, fun n13 => ⟨fun n12 => ⟨hst2.1.1, hT2.1.1, CallVC.cps0 (by omega) ?_⟩, fun e12 => ⟨hst2.1.1, CallVC.cps0 (by omega) ?_⟩⟩, fun e13 => ⟨hst2.1.1, CallVC.cps0 (by omega) ?_⟩⟩
    · obtain ⟨b0, b1, b2, b3, b4, b5, b6, t1, t2, t3, t4, t5, t6⟩ := id hst2.1
      have hc2 : m_i M2 A 7 = nI R.length := by rw [F2'.1 _ _ (by omega)]; exact hc1
      have e0 : rbS n tp w (tb n tp (i + 1)) = if nOK n tp (loW w) (hiW w) (tb n tp (i + 1)) then (0, nx n tp (tb n tp (i + 1)), kdN w, cvl n tp (tb n tp (i + 1)), []) else (fcd n tp (tb n tp (i + 1)), tb n tp (i + 1), kdN w, 0, []) := by unfold rbS; rw [if_neg n13, if_neg n12]
      have k8 : kdN w < 8 := by omega
      refine ct_takeNumber M2 hT2 (loW w) (hiW w) _ _ w5 w6 w7 (fun ok M3 F3 hT3 => ?_) (fun bad M3 F3 hT3 hfl => ?_)
      · rw [if_pos ok] at e0
        rw [e0] at hp
        have hv := cvl_lt n tp (tb n tp (i + 1))
        have hst3 := hst2.fr F3 XB_le
        have hc3 : m_i M3 A 7 = nI R.length := by rw [F3.1 _ _ (by unfold XB; omega)]; exact hc2
        refine bLa_readRule_124 M3 _ _ _ _ _ _ _ ⟨by rw [b2, F3.2.2.2.1, t2], by rw [b2, F3.2.2.2.1, t2, hc2]; exact hin, hst3.1.1, by rw [hst3.1.2.2.1, F3.2.2.2.1, t2], by rw [hst3.1.2.2.1, F3.2.2.2.1, t2, b2, m_i_si, if_neg (by omega), hc3]; exact hin, fun z => ?_, fun z => ?_⟩
        · have q7 : m_i (m_si M3 (A + 2) R.length (nI (cvl n tp (tb n tp (i + 1))))) A 7 = nI R.length := by rw [m_i_si, if_neg (by omega)]; exact hc3
          rw [hst3.1.2.2.1, b2, hc2, ec, q7, ec, m_i_si, if_pos ⟨rfl, rfl⟩] at z
          exact absurd z (nI_ne_m1 hv)
        · rw [b2, hc2, ec]
          have F4 : FrS (fun a j => a = A + 2 ∧ j = R.length) M3 (m_si M3 (A + 2) R.length (nI (cvl n tp (tb n tp (i + 1))))) := FrS.si (P := fun a j => a = A + 2 ∧ j = R.length) ⟨rfl, rfl⟩ _
          refine rr_fin1 (i3 := i + 1 + 1) (k3 := k) (S := []) hp hB hA hl10 (by omega) rfl rfl rfl ((F3.mono XB_Ms).tr (F4.mono (fun a j z => by unfold XMs; omega))) (hT3.keepS F4 (fun a j _ _ => by omega)) rfl ⟨hst3.1.of F4.2.1 F4.2.2.2.1, by rw [F4.1 _ _ (by omega)]; exact hst3.2.1, hk5, hA1, hA2⟩ rfl (by omega) (fun a j h1 h2 hn => by rw [F4.1 _ _ hn, F3.1 _ _ (by unfold XB; omega)]) (by rw [F4.1 _ _ (by omega), F3.1 _ _ (by unfold XB; omega)]) (fun _ => by rw [m_i_si, if_pos ⟨rfl, rfl⟩]) (fun j hj => by rw [F4.1 _ _ (by omega), F3.1 _ _ (by unfold XB; omega)]) (fun j hj => absurd hj (by show ¬ j < 0; omega))
      · rw [if_neg bad] at e0
        rw [e0] at hp
        have hst3 := hst2.fr F3 XA_le
        have hc3 : m_i M3 A 7 = nI R.length := by rw [F3.1 _ _ (by unfold XA; omega)]; exact hc2
        refine bLa_readRule_124 M3 _ _ _ _ _ _ _ ⟨by rw [b2, F3.2.2.2.1, t2], by rw [b2, F3.2.2.2.1, t2, hc2]; exact hin, hst3.1.1, by rw [hst3.1.2.2.1, F3.2.2.2.1, t2], by rw [hst3.1.2.2.1, F3.2.2.2.1, t2, b2, m_i_si, if_neg (by omega), hc3]; exact hin, fun z => ?_, fun z => ?_⟩
        · rw [b2, hc2, ec]
          have F4 : FrS (fun a j => a = A + 2 ∧ j = R.length) M3 (m_si M3 (A + 2) R.length (-1)) := FrS.si (P := fun a j => a = A + 2 ∧ j = R.length) ⟨rfl, rfl⟩ _
          exact rr_fin0 hp hB hA1 hl10 (fcd_ne _ _ _) ((F3.mono XA_Mf).tr (F4.mono (fun a j z => by unfold XMf; omega))) (hst3.1.of F4.2.1 F4.2.2.2.1) (by rw [F4.1 _ _ (by omega), F3.1 _ _ (by unfold XA; omega)]) ⟨by rw [F4.1 _ _ (by omega)]; exact hfl.1, by rw [F4.1 _ _ (by omega)]; exact hfl.2⟩
        · refine absurd ?_ z
          have q7 : m_i (m_si M3 (A + 2) R.length (-1)) A 7 = nI R.length := by rw [m_i_si, if_neg (by omega)]; exact hc3
          rw [hst3.1.2.2.1, b2, hc2, ec, q7, ec, m_i_si, if_pos ⟨rfl, rfl⟩]
    · have e0 : rbS n tp w (tb n tp (i + 1)) = codP w (sumS n tp 6 (tb n tp (i + 1))) := by unfold rbS; rw [if_neg n13, if_pos e12]
      exact rd_sums 6 (by omega) (d - 1) (by omega) _ _ _ M2 (i + 1) k hT2 hst2 (by omega) ((stp _ e0 (by omega)).im (fun o M3 ⟨v, e, hv⟩ => by subst e; exact bLa_readRule_100 M3 _ _ _ _ _ hv))
    · have e0 : rbS n tp w (tb n tp (i + 1)) = codP w (orF n tp (clmS n tp 6) (tb n tp (i + 1))) := by unfold rbS; rw [if_pos e13]
      exact rd_or _ (by omega) (rd_and _ (by omega) (rd_clms 6 (by omega) _ (by omega))) _ _ _ M2 (i + 1) k hT2 hst2 (by omega) ((stp _ e0 (by omega)).im (fun o M3 ⟨v, e, hv⟩ => by subst e; exact bLa_readRule_79 M3 _ _ _ _ _ hv))
  · rw [if_pos hpos] at hp
    rw [hc] at hge
    rw [if_pos (show 10 ≤ R.length from Nat.le_of_not_lt (fun y => hge ((nI_ltI (b := 10) (by omega) (by omega)).mpr y)))] at hp
    exact ct_fail M hT 3 3 rfl (fun M1 F1 hT1 hfl => bLa_readRule_32 M1 _ _ _ _ _ ⟨rfl, hp.2 (by show ¬ 3 = 0; decide) M1 (F1.mono XA_Mf) hfl⟩)
  · rw [if_neg hneg] at hp
    exact ct_fail M hT 1 1 rfl (fun M1 F1 hT1 hfl => bLa_readRule_17 M1 _ _ _ _ _ ⟨rfl, hp.2 (by show ¬ 1 = 0; decide) M1 (F1.mono XA_Mf) hfl⟩)
end CRU
