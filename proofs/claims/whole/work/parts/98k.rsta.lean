/-! ===== the reference: a formula's reader ===== -/
/-- reading a formula: where, how many opened, which RULE, the codes told -/
def RCs (M : Mm) (n : Nat) (tp : Nat → Nat) (q o r : Nat) (L : List Int32) : Prop := RA M n tp q ∧ m_i M 206 8 = nI o ∧ m_i M 206 14 = nI r ∧ r < 10 ∧ m_i M 206 16 = nI L.length ∧ ∀ j, j < L.length → m_i M (233 + r) j = stL L j
def RFc (M : Mm) (n : Nat) (tp : Nat → Nat) (fc fp q r k : Nat) : Prop := RFt M n tp fc fp q ∧ m_i M 206 14 = nI r ∧ r < 10 ∧ m_i M 206 16 = nI k
def XRs (r : Nat) : Nat → Nat → Prop := fun a j => (a = 206 ∧ (j = 4 ∨ j = 8 ∨ j = 16)) ∨ a = 233 + r
def XRf (r : Nat) : Nat → Nat → Prop := fun a j => (a = 206 ∧ (j = 4 ∨ j = 5 ∨ j = 6 ∨ j = 8 ∨ j = 16)) ∨ a = 233 + r
theorem XRs_f {r : Nat} : ∀ a j, XRs r a j → XRf r a j := fun a j h => by unfold XRs at h; unfold XRf; omega
theorem X4_Rs {r : Nat} : ∀ a j, X4 a j → XRs r a j := fun a j h => by unfold X4 at h; unfold XRs; omega
theorem X46_Rf {r : Nat} : ∀ a j, X46 a j → XRf r a j := fun a j h => by unfold X46 at h; unfold XRf; omega
theorem X4_Rf {r : Nat} : ∀ a j, X4 a j → XRf r a j := fun a j h => by unfold X4 at h; unfold XRf; omega
theorem RCs.x4 {M M' : Mm} {n : Nat} {tp : Nat → Nat} {q q' o r : Nat} {L : List Int32} (h : RCs M n tp q o r L) (F : FrS X4 M M') (hA : RA M' n tp q') : RCs M' n tp q' o r L := by
  obtain ⟨h1, h2, h3, h4, h5, h6⟩ := h
  exact ⟨hA, by rw [X4_5 F (by omega)]; exact h2, by rw [X4_5 F (by omega)]; exact h3, h4, by rw [X4_5 F (by omega)]; exact h5, fun j hj => by rw [F.1 _ _ (by unfold X4; omega)]; exact h6 j hj⟩
theorem RCs.f46 {M M' : Mm} {n : Nat} {tp : Nat → Nat} {q q' o r fc fp : Nat} {L : List Int32} (h : RCs M n tp q o r L) (F : FrS X46 M M') (hF : RFt M' n tp fc fp q') : RFc M' n tp fc fp q' r L.length := by
  obtain ⟨h1, h2, h3, h4, h5, h6⟩ := h
  exact ⟨hF, by rw [F.1 _ _ (by unfold X46; omega)]; exact h3, h4, by rw [F.1 _ _ (by unfold X46; omega)]; exact h5⟩
/-- the codes told, one more -/
theorem RCs.tell {M : Mm} {n : Nat} {tp : Nat → Nat} {q o r : Nat} {L : List Int32} (h : RCs M n tp q o r L) (c : Int32) : FrS (XRs r) M (m_si (m_si M (233 + r) L.length c) 206 16 (nI (L.length + 1))) ∧ RCs (m_si (m_si M (233 + r) L.length c) 206 16 (nI (L.length + 1))) n tp q o r (L ++ [c]) := by
  obtain ⟨h1, h2, h3, h4, h5, h6⟩ := h
  have F : FrS (fun a j => (a = 206 ∧ j = 16) ∨ a = 233 + r) M (m_si (m_si M (233 + r) L.length c) 206 16 (nI (L.length + 1))) := (FrS.si (P := fun a j => (a = 206 ∧ j = 16) ∨ a = 233 + r) (Or.inr rfl) _).tr (FrS.si (Or.inl ⟨rfl, rfl⟩) _)
  refine ⟨F.mono (fun a j k => by unfold XRs; omega), h1.fr F (by omega) (fun j => by omega) (by omega) (by rw [F.1 _ _ (by omega)]; exact h1.2.1) h1.2.2.1, by rw [F.1 _ _ (by omega)]; exact h2, by rw [F.1 _ _ (by omega)]; exact h3, h4, by rw [m_i_si, if_pos ⟨rfl, rfl⟩, List.length_append, List.length_singleton], fun j hj => ?_⟩
  rw [List.length_append, List.length_singleton] at hj
  rw [m_i_si, if_neg (by omega), m_i_si]
  by_cases z : j = L.length
  · subst z
    rw [if_pos ⟨rfl, rfl⟩]
    unfold stL
    rw [List.getD_eq_getElem?_getD, List.getElem?_append_right (Nat.le_refl _), Nat.sub_self]
    rfl
  · rw [if_neg (fun y => z y.2), h6 j (by omega)]
    unfold stL
    rw [List.getD_eq_getElem?_getD, List.getD_eq_getElem?_getD, List.getElem?_append_left (by omega)]
theorem RFc.tell {M : Mm} {n : Nat} {tp : Nat → Nat} {fc fp q r k : Nat} (h : RFc M n tp fc fp q r k) (c : Int32) : FrS (XRf r) M (m_si (m_si M (233 + r) k c) 206 16 (nI (k + 1))) ∧ RFc (m_si (m_si M (233 + r) k c) 206 16 (nI (k + 1))) n tp fc fp q r (k + 1) := by
  obtain ⟨h1, h2, h3, h4⟩ := h
  have F : FrS (fun a j => (a = 206 ∧ j = 16) ∨ a = 233 + r) M (m_si (m_si M (233 + r) k c) 206 16 (nI (k + 1))) := (FrS.si (P := fun a j => (a = 206 ∧ j = 16) ∨ a = 233 + r) (Or.inr rfl) _).tr (FrS.si (Or.inl ⟨rfl, rfl⟩) _)
  exact ⟨F.mono (fun a j k => by unfold XRf; omega), h1.fr F (by omega) (fun j => by omega) (by omega) (by omega) (by rw [F.1 _ _ (by omega)]; exact h1.2.2.2.2.1) h1.2.2.2.2.2, by rw [F.1 _ _ (by omega)]; exact h2, h3, by rw [m_i_si, if_pos ⟨rfl, rfl⟩]⟩
theorem RFc.z8 {M : Mm} {n : Nat} {tp : Nat → Nat} {fc fp q r k : Nat} (h : RFc M n tp fc fp q r k) (x : Int32) : FrS (XRf r) M (m_si M 206 8 x) ∧ RFc (m_si M 206 8 x) n tp fc fp q r k := by
  obtain ⟨h1, h2, h3, h4⟩ := h
  have F : FrS (fun a j => a = 206 ∧ j = 8) M (m_si M 206 8 x) := FrS.si (P := fun a j => a = 206 ∧ j = 8) ⟨rfl, rfl⟩ _
  exact ⟨F.mono (fun a j k => by unfold XRf; omega), h1.fr F (by omega) (fun j => by omega) (by omega) (by omega) (by rw [F.1 _ _ (by omega)]; exact h1.2.2.2.2.1) h1.2.2.2.2.2, by rw [F.1 _ _ (by omega)]; exact h2, h3, by rw [F.1 _ _ (by omega)]; exact h4⟩
theorem RFc.z4 {M : Mm} {n : Nat} {tp : Nat → Nat} {fc fp q r k : Nat} (h : RFc M n tp fc fp q r k) (q' : Nat) (hq : q' ≤ 600) : FrS (XRf r) M (m_si M 206 4 (nI q')) ∧ RFc (m_si M 206 4 (nI q')) n tp fc fp q' r k := by
  obtain ⟨h1, h2, h3, h4⟩ := h
  have F : FrS X4 M (m_si M 206 4 (nI q')) := FrS.si (P := X4) ⟨rfl, rfl⟩ _
  exact ⟨F.mono X4_Rf, h1.fr F (by unfold X4; omega) (fun j => by unfold X4; omega) (by unfold X4; omega) (by unfold X4; omega) (by rw [m_i_si, if_pos ⟨rfl, rfl⟩]) hq, by rw [X4_5 F (by omega)]; exact h2, h3, by rw [X4_5 F (by omega)]; exact h4⟩
theorem RCs.z8 {M : Mm} {n : Nat} {tp : Nat → Nat} {q o r : Nat} {L : List Int32} (h : RCs M n tp q o r L) (o' : Nat) : FrS (XRs r) M (m_si M 206 8 (nI o')) ∧ RCs (m_si M 206 8 (nI o')) n tp q o' r L := by
  obtain ⟨h1, h2, h3, h4, h5, h6⟩ := h
  have F : FrS (fun a j => a = 206 ∧ j = 8) M (m_si M 206 8 (nI o')) := FrS.si (P := fun a j => a = 206 ∧ j = 8) ⟨rfl, rfl⟩ _
  exact ⟨F.mono (fun a j k => by unfold XRs; omega), h1.fr F (by omega) (fun j => by omega) (by omega) (by rw [F.1 _ _ (by omega)]; exact h1.2.1) h1.2.2.1, by rw [m_i_si, if_pos ⟨rfl, rfl⟩], by rw [F.1 _ _ (by omega)]; exact h3, h4, by rw [F.1 _ _ (by omega)]; exact h5, fun j hj => by rw [F.1 _ _ (by omega)]; exact h6 j hj⟩
theorem RCs.z4 {M : Mm} {n : Nat} {tp : Nat → Nat} {q o r : Nat} {L : List Int32} (h : RCs M n tp q o r L) (q' : Nat) (hq : q' ≤ n) : FrS (XRs r) M (m_si M 206 4 (nI q')) ∧ RCs (m_si M 206 4 (nI q')) n tp q' o r L := by
  have F : FrS X4 M (m_si M 206 4 (nI q')) := FrS.si (P := X4) ⟨rfl, rfl⟩ _
  exact ⟨F.mono X4_Rs, h.x4 F (h.1.x4 F (by rw [m_i_si, if_pos ⟨rfl, rfl⟩]) hq)⟩
/-- what a reader from q on leaves behind -/
def LrPost (M : Mm) (n : Nat) (tp : Nat → Nat) (b q o r : Nat) (L : List Int32) (T : Pr) (Φ : OutV → Mm → Prop) : Prop :=
  (T.1 = 0 → ∀ M' q', FrS (XRs r) M M' → RCs M' n tp q' o r (L ++ eL T.2.2) → rn n tp isb q' = T.2.1 → 2 * (L ++ eL T.2.2).length + 3 * q ≤ 3 * q' + 2 * L.length + 1 → Φ (.inl none) M') ∧
  (¬ T.1 = 0 → ∀ M' q' k', FrS (XRf r) M M' → RFc M' n tp T.1 T.2.1 q' r k' → 2 * k' + 3 * q ≤ 3 * q' + 2 * L.length + 1 → q' ≤ n + b → Φ (.inl none) M')
/-- method y reads as f tells -/
def RRD (n : Nat) (tp : Nat → Nat) (y : MR) (f : Nat → Pr) (b o dd : Nat) : Prop := ∀ (l : Launch) (G : Gx) (d bc bs : Nat) (Φ : OutV → Mm → Prop) (M : Mm) (q r : Nat) (L : List Int32), dd < d → RCs M n tp q o r L → 2 * L.length ≤ 3 * q + 10 → LrPost M n tp b q o r L (f (rn n tp isb q)) Φ → Ct l G d y bc bs [.ref 206] M Φ
/-- method y after a fault: nothing -/
def RDF (y : MR) (dd : Nat) : Prop := ∀ (l : Launch) (G : Gx) (d bc bs : Nat) (Φ : OutV → Mm → Prop) (M : Mm) (n : Nat) (tp : Nat → Nat) (fc fp q : Nat), dd < d → RFt M n tp fc fp q → Φ (.inl none) M → Ct l G d y bc bs [.ref 206] M Φ
theorem rf_unit : RDF mRe_unit 4 := by
  intro l G d bc bs Φ M n tp fc fp q hd hF h
  refine Ct.of rfl (Nat.le_of_ble_eq_true rfl) (bRe_unit_0 _ _ ⟨hF.1.1.c, CallVC.cps0 (by omega) (ct_signHF M hF (bRe_unit_4 _ _ _ _ _ _ ⟨hF.1.1.c, CallVC.cps0 (by omega) (ct_nameHF M hF (by omega) (bRe_unit_9 _ _ _ _ _ _ ⟨hF.1.1.c, fun z => absurd z hF.ne, fun _ => h⟩))⟩))⟩)
theorem rf_product : RDF mRe_product 5 := by
  intro l G d bc bs Φ M n tp fc fp q hd hF h
  refine Ct.of rfl (Nat.le_of_ble_eq_true rfl) (bRe_product_0 _ _ ⟨hF.1.1.c, CallVC.cps0 (by omega) (rf_unit _ _ _ _ _ _ M n tp fc fp q (by omega) hF (bRe_product_4 _ _ _ ⟨hF.1.1.c, CallVC.cps0 (by omega) (ct_signHF M hF (bRe_product_8 _ _ _ _ (bRe_product_9 _ _ _ ⟨hF.1.1.c, fun _ => h, fun z => absurd z hF.ne⟩)))⟩))⟩)
theorem rf_sum : RDF mRe_sum 6 := by
  intro l G d bc bs Φ M n tp fc fp q hd hF h
  refine Ct.of rfl (Nat.le_of_ble_eq_true rfl) (bRe_sum_0 _ _ ⟨hF.1.1.c, CallVC.cps0 (by omega) (rf_product _ _ _ _ _ _ M n tp fc fp q (by omega) hF (bRe_sum_4 _ _ _ ⟨hF.1.1.c, CallVC.cps0 (by omega) (ct_signHF M hF (bRe_sum_8 _ _ _ _ (bRe_sum_9 _ _ _ ⟨hF.1.1.c, fun _ => h, fun z => absurd z hF.ne⟩)))⟩))⟩)
