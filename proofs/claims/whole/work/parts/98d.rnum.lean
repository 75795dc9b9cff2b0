/-! ===== the reference: faults, numbers, signs ===== -/
def X46 : Nat → Nat → Prop := fun a j => a = 206 ∧ (j = 4 ∨ j = 5 ∨ j = 6)
theorem X4_46 : ∀ a j, X4 a j → X46 a j := fun a j h => by unfold X4 at h; unfold X46; omega
/-- a fault has been told -/
def RFt (M : Mm) (n : Nat) (tp : Nat → Nat) (fc fp q : Nat) : Prop := RT M n tp ∧ m_i M 206 5 = nI fc ∧ (1 ≤ fc ∧ fc ≤ 3) ∧ m_i M 206 6 = nI fp ∧ m_i M 206 4 = nI q ∧ q ≤ 600
theorem RFt.ne {M : Mm} {n : Nat} {tp : Nat → Nat} {fc fp q : Nat} (h : RFt M n tp fc fp q) : ¬ m_i M 206 5 = 0 := by
  rw [h.2.1]
  have := h.2.2.1
  exact fun z => absurd ((nI_eq (a := fc) (b := 0) (by omega) (by omega)).mp z) (by omega)
theorem RFt.fr {M M' : Mm} {n : Nat} {tp : Nat → Nat} {fc fp q q' : Nat} {X : Nat → Nat → Prop} (h : RFt M n tp fc fp q) (hF : FrS X M M') (h2 : ¬ X 206 2) (h3 : ∀ j, ¬ X 207 j) (h5 : ¬ X 206 5) (h6 : ¬ X 206 6) (h4 : m_i M' 206 4 = nI q') (hq : q' ≤ 600) : RFt M' n tp fc fp q' :=
  ⟨h.1.fr hF h2 h3, by rw [hF.1 _ _ h5]; exact h.2.1, h.2.2.1, by rw [hF.1 _ _ h6]; exact h.2.2.2.1, h4, hq⟩
theorem RA.fr {M M' : Mm} {n : Nat} {tp : Nat → Nat} {q q' : Nat} {X : Nat → Nat → Prop} (h : RA M n tp q) (hF : FrS X M M') (h2 : ¬ X 206 2) (h3 : ∀ j, ¬ X 207 j) (h5 : ¬ X 206 5) (h4 : m_i M' 206 4 = nI q') (hq : q' ≤ n) : RA M' n tp q' :=
  ⟨h.1.fr hF h2 h3, h4, hq, by rw [hF.1 _ _ h5]; exact h.2.2.2⟩
theorem ite10 {P : Prop} [Decidable P] : ((if P then (1 : Int32) else 0) = 0 → ¬ P) ∧ (¬ (if P then (1 : Int32) else 0) = 0 → P) := by
  by_cases c : P
  · rw [if_pos c]; exact ⟨fun z => absurd z (by decide), fun _ => c⟩
  · rw [if_neg c]; exact ⟨fun _ => c, fun z => absurd rfl z⟩
theorem isd_rng {c : Nat} (h : isd c = true) : 48 ≤ c ∧ c ≤ 57 := of_decide_eq_true h
theorem tk_1 {n : Nat} {tp : Nat → Nat} {p : Nat} : tk n tp p = 1 ↔ p < n ∧ isd (tp p) = true := by
  unfold tk
  by_cases a : n ≤ p
  · rw [if_pos a]; exact ⟨fun z => absurd z (by omega), fun z => absurd z.1 (by omega)⟩
  · rw [if_neg a]
    by_cases b : isd (tp p) = true
    · rw [if_pos b]; exact ⟨fun _ => ⟨by omega, b⟩, fun _ => rfl⟩
    · rw [if_neg b]
      refine ⟨fun z => ?_, fun z => absurd z.2 b⟩
      split at z <;> omega
theorem tk_2 {n : Nat} {tp : Nat → Nat} {p : Nat} : tk n tp p = 2 ↔ p < n ∧ isl (tp p) = true := by
  unfold tk
  by_cases a : n ≤ p
  · rw [if_pos a]; exact ⟨fun z => absurd z (by omega), fun z => absurd z.1 (by omega)⟩
  · rw [if_neg a]
    by_cases b : isd (tp p) = true
    · rw [if_pos b]; exact ⟨fun z => absurd z (by omega), fun z => by have := isd_rng b; have := isl_rng z.2; omega⟩
    · rw [if_neg b]
      by_cases c : isl (tp p) = true
      · rw [if_pos c]; exact ⟨fun _ => ⟨by omega, c⟩, fun _ => rfl⟩
      · rw [if_neg c]; exact ⟨fun z => absurd z (by omega), fun z => absurd z.2 c⟩
/-- a code that is no digit and no letter -/
def sgn (c : Nat) : Prop := 0 < c ∧ c < 128 ∧ ¬ (48 ≤ c ∧ c ≤ 57) ∧ ¬ (97 ≤ c ∧ c ≤ 122)
theorem sg_iff {n : Nat} {tp : Nat → Nat} {p c : Nat} (hc : sgn c) : sg n tp p = c ↔ p < n ∧ tp p = c := by
  obtain ⟨c1, c2, c3, c4⟩ := hc
  unfold sg tk
  by_cases a : n ≤ p
  · rw [if_pos a, if_neg (by omega)]; exact ⟨fun z => absurd z (by omega), fun z => absurd z.1 (by omega)⟩
  · rw [if_neg a]
    by_cases b : isd (tp p) = true
    · rw [if_pos b, if_neg (by omega)]; exact ⟨fun z => absurd z (by omega), fun z => by have := isd_rng b; omega⟩
    · rw [if_neg b]
      by_cases e : isl (tp p) = true
      · rw [if_pos e, if_neg (by omega)]; exact ⟨fun z => absurd z (by omega), fun z => by have := isl_rng e; omega⟩
      · rw [if_neg e, if_pos rfl]; exact ⟨fun z => ⟨by omega, z⟩, fun z => z.2⟩
theorem sg_te {n : Nat} {tp : Nat → Nat} {p c : Nat} (hc : sgn c) (h : sg n tp p = c) : p < n ∧ te n tp p = p + 1 := by
  obtain ⟨h1, h2⟩ := (sg_iff hc).mp h
  obtain ⟨c1, c2, c3, c4⟩ := hc
  refine ⟨h1, ?_⟩
  unfold te isd isl
  rw [h2, if_neg (by simp only [decide_eq_true_eq]; omega), if_neg (by simp only [decide_eq_true_eq]; omega)]
theorem tk1_te {n : Nat} {tp : Nat → Nat} {p : Nat} (h : tk n tp p = 1) : te n tp p = rn n tp isd p := by unfold te; rw [if_pos (tk_1.mp h).2]
theorem tk2_te {n : Nat} {tp : Nat → Nat} {p : Nat} (h : tk n tp p = 2) : te n tp p = rn n tp isl p := by
  have := tk_2.mp h
  unfold te
  rw [if_neg (fun z => by have := isd_rng z; have := isl_rng (tk_2.mp h).2; omega), if_pos this.2]
theorem wd_tk {n : Nat} {tp : Nat → Nat} {p w : Nat} (h : wd n tp p = w) (hw : ¬ w = 1) : tk n tp p = 2 := by
  unfold wd at h
  by_cases c : tk n tp p = 2
  · exact c
  · rw [if_neg c] at h; exact absurd h.symm hw
/-- the reference's number against the class's -/
def nvR (v c : Nat) : Prop := (v = c ∧ c ≤ 9999) ∨ (10000 ≤ v ∧ v ≤ 100000 ∧ 10000 ≤ c)
section RNU
variable {l : Launch} {G : Gx} {d : Nat} {bc bs : Nat} {Φ : OutV → Mm → Prop}
theorem ct_wrong (M : Mm) {n : Nat} {tp : Nat → Nat} {q : Nat} (hA : RA M n tp q) (fc fp : Nat) (hfc : 1 ≤ fc ∧ fc ≤ 3) (h : ∀ M', FrS (fun a j => a = 206 ∧ (j = 5 ∨ j = 6)) M M' → RFt M' n tp fc fp q → Φ (.inl none) M') : Ct l G d mRe_wrong bc bs [.ref 206, .int (nI fc), .int (nI fp)] M Φ := by
  have hn := hA.1.2.2.1
  have hq := hA.2.2.1
  refine Ct.of rfl (Nat.le_of_ble_eq_true rfl) (bRe_wrong_0 _ _ _ _ ⟨hA.1.1.c, fun z => absurd hA.2.2.2 z, fun _ => ?_⟩)
  have F : FrS (fun a j => a = 206 ∧ (j = 5 ∨ j = 6)) M (m_si (m_si M 206 5 (nI fc)) 206 6 (nI fp)) := (FrS.si (P := fun a j => a = 206 ∧ (j = 5 ∨ j = 6)) ⟨rfl, Or.inl rfl⟩ _).tr (FrS.si ⟨rfl, Or.inr rfl⟩ _)
  exact h _ F ⟨hA.1.fr F (by omega) (fun j => by omega), by rw [m_i_si, if_neg (by omega), m_i_si, if_pos ⟨rfl, rfl⟩], hfc, by rw [m_i_si, if_pos ⟨rfl, rfl⟩], by rw [F.1 _ _ (by omega)]; exact hA.2.1, by omega⟩
theorem ct_wrongF (M : Mm) {n : Nat} {tp : Nat → Nat} {fc fp q : Nat} (hA : RFt M n tp fc fp q) (x y : Int32) (h : Φ (.inl none) M) : Ct l G d mRe_wrong bc bs [.ref 206, .int x, .int y] M Φ :=
  Ct.of rfl (Nat.le_of_ble_eq_true rfl) (bRe_wrong_0 _ _ _ _ ⟨hA.1.1.c, fun _ => h, fun z => absurd z hA.ne⟩)
theorem ct_isWordF (M : Mm) {n : Nat} {tp : Nat → Nat} {fc fp q : Nat} (hA : RFt M n tp fc fp q) (x : Int64) (h : Φ (.inl (some (.int 0))) M) : Ct l G d mRe_isWord bc bs [.ref 206, .long x] M Φ :=
  Ct.of rfl (Nat.le_of_ble_eq_true rfl) (bRe_isWord_0 _ _ _ ⟨hA.1.1.c, fun _ => h, fun z => absurd z hA.ne⟩)
theorem ct_eatsF (M : Mm) {n : Nat} {tp : Nat → Nat} {fc fp q : Nat} (hA : RFt M n tp fc fp q) (x : Int64) (hd : 0 < d) (h : Φ (.inl (some (.int 0))) M) : Ct l G d mRe_eats bc bs [.ref 206, .long x] M Φ := by
  refine Ct.of rfl (Nat.le_of_ble_eq_true rfl) (bRe_eats_0 _ _ _ ⟨hA.1.1.c, CallVC.cps0 (by omega) (ct_isWordF M hA x ?_)⟩)
  exact bRe_eats_5 _ _ _ _ _ ⟨fun z => absurd rfl z, fun _ => h⟩
theorem ct_numF (M : Mm) {n : Nat} {tp : Nat → Nat} {fc fp q : Nat} (hA : RFt M n tp fc fp q) (x y z : Int32) (h : Φ (.inl (some (.int 0))) M) : Ct l G d mRe_numberHere bc bs [.ref 206, .int x, .int y, .int z] M Φ :=
  Ct.of rfl (Nat.le_of_ble_eq_true rfl) (bRe_numberHere_0 _ _ _ _ _ ⟨hA.1.1.c, fun z => absurd z hA.ne, fun _ => h⟩)
theorem ct_signHF (M : Mm) {n : Nat} {tp : Nat → Nat} {fc fp q : Nat} (hA : RFt M n tp fc fp q) (h : Φ (.inl (some (.int (-1)))) M) : Ct l G d mRe_signHere bc bs [.ref 206] M Φ :=
  Ct.of rfl (Nat.le_of_ble_eq_true rfl) (bRe_signHere_0 _ _ ⟨hA.1.1.c, fun z => absurd z hA.ne, fun _ => h⟩)
theorem ct_signF (M : Mm) {n : Nat} {tp : Nat → Nat} {fc fp q : Nat} (hA : RFt M n tp fc fp q) (x : Int32) (h : Φ (.inl none) M) : Ct l G d mRe_sign bc bs [.ref 206, .int x] M Φ :=
  Ct.of rfl (Nat.le_of_ble_eq_true rfl) (bRe_sign_0 _ _ _ ⟨hA.1.1.c, fun z => absurd z hA.ne, fun _ => h⟩)
theorem ct_eats (M : Mm) {n : Nat} {tp : Nat → Nat} {q : Nat} (hA : RA M n tp q) {w : Nat} (hw : 2 ≤ w ∧ w ≤ 23) {x : Int64} (hx : x = lN (kvL (wTx w))) (hd : 3 < d) (h1 : wd n tp (rn n tp isb q) = w → ∀ M', FrS X4 M M' → RA M' n tp (te n tp (rn n tp isb q)) → Φ (.inl (some (.int 1))) M') (h0 : ¬ wd n tp (rn n tp isb q) = w → ∀ M', FrS X4 M M' → RA M' n tp (rn n tp isb q) → Φ (.inl (some (.int 0))) M') : Ct l G d mRe_eats bc bs [.ref 206, .long x] M Φ := by
  refine Ct.of rfl (Nat.le_of_ble_eq_true rfl) (bRe_eats_0 _ _ _ ⟨hA.1.1.c, CallVC.cps0 (by omega) (ct_isWord M hA hw hx (by omega) (fun M1 F1 hA1 => ?_))⟩)
  refine bRe_eats_5 _ _ _ _ _ ⟨fun z => ⟨hA1.1.1.c, CallVC.cps0 (by omega) (ct_skipWord M1 hA1 (by omega) (fun M2 F2 hA2 => ?_))⟩, fun z => h0 (ite10.1 z) M1 F1 hA1⟩
  have e := ite10.2 z
  refine bRe_eats_14 _ _ _ _ (h1 e M2 (F1.tr F2) ?_)
  rw [tk2_te (wd_tk e (by omega))]
  exact hA2
theorem ct_signHR (M : Mm) {n : Nat} {tp : Nat → Nat} {q : Nat} (hA : RA M n tp q) (hd : 1 < d) (h : ∀ M', FrS X4 M M' → RA M' n tp (rn n tp isb q) → Φ (.inl (some (.int (bt n tp (rn n tp isb q))))) M') : Ct l G d mRe_signHere bc bs [.ref 206] M Φ := by
  have hn := hA.1.2.2.1
  refine Ct.of rfl (Nat.le_of_ble_eq_true rfl) (bRe_signHere_0 _ _ ⟨hA.1.1.c, fun _ => CallVC.cps0 (by omega) (ct_blanksA M hA (by omega) (fun M1 F1 hA1 => ?_)), fun z => absurd hA.2.2.2 z⟩)
  have := hA1.2.2.1
  refine bRe_signHere_13 _ _ ⟨hA1.1.1.c, CallVC.cps0 (by omega) ?_⟩
  rw [hA1.2.1]
  exact ct_byteAt M1 hA1.1 _ (by omega) (bRe_signHere_21 _ _ _ (h M1 F1 hA1))
theorem ct_sign (M : Mm) {n : Nat} {tp : Nat → Nat} {q : Nat} (hA : RA M n tp q) {c : Nat} (hc : sgn c) (hd : 1 < d) (h1 : sg n tp (rn n tp isb q) = c → ∀ M', FrS X4 M M' → RA M' n tp (te n tp (rn n tp isb q)) → Φ (.inl none) M') (h0 : ¬ sg n tp (rn n tp isb q) = c → ∀ M', FrS X46 M M' → RFt M' n tp 1 (rn n tp isb q) (rn n tp isb q) → Φ (.inl none) M') : Ct l G d mRe_sign bc bs [.ref 206, .int (nI c)] M Φ := by
  have hn := hA.1.2.2.1
  have hb := fun j hj => (hA.1.2.2.2 j hj).2
  refine Ct.of rfl (Nat.le_of_ble_eq_true rfl) (bRe_sign_0 _ _ _ ⟨hA.1.1.c, fun _ => CallVC.cps0 (by omega) (ct_blanksA M hA (by omega) (fun M1 F1 hA1 => ?_)), fun z => absurd hA.2.2.2 z⟩)
  generalize rn n tp isb q = p at hA1 h1 h0 ⊢
  have hpn := hA1.2.2.1
  have e : bt n tp p = nI c ↔ sg n tp p = c := by rw [sg_iff hc]; exact bt_b hb (by have := hc.2.1; omega)
  refine bRe_sign_12 _ _ _ ⟨hA1.1.1.c, CallVC.cps0 (by omega) ?_⟩
  rw [hA1.2.1]
  refine ct_byteAt M1 hA1.1 _ (by omega) (bRe_sign_20 _ _ _ _ ⟨fun z => ⟨hA1.1.1.c, CallVC.cps0 (by omega) ?_⟩, fun z => ⟨hA1.1.1.c, ?_⟩⟩)
  · rw [hA1.2.1]
    refine ct_wrong M1 hA1 1 p (by omega) (fun M2 F2 hF => bRe_sign_46 _ _ _ (h0 (fun k => z (e.mpr k)) M2 ((F1.mono X4_46).tr (F2.mono (fun a j k => by unfold X46; omega))) hF))
  · have k := e.mp z
    obtain ⟨k1, k2⟩ := sg_te hc k
    rw [hA1.2.1, nI_1]
    have F2 : FrS X4 M1 (m_si M1 206 4 (nI (p + 1))) := FrS.si (P := X4) ⟨rfl, rfl⟩ _
    refine bRe_sign_46 _ _ _ (h1 k _ (F1.tr F2) ?_)
    rw [k2]
    exact hA1.x4 F2 (by rw [m_i_si, if_pos ⟨rfl, rfl⟩]) k1
theorem ct_isDigitR (M : Mm) {n : Nat} {tp : Nat → Nat} (hb : ∀ j, j < n → tp j < 256) (p : Nat) (h : Φ (.inl (some (.int (if tk n tp p = 1 then 1 else 0)))) M) : Ct l G d mRe_isDigit bc bs [.int (bt n tp p)] M Φ := by
  have e1 := (bt_lo (p := p) hb (c := 48) (by omega)).1
  have e2 := (bt_lo (p := p) hb (c := 57) (by omega)).2
  refine Ct.of rfl (Nat.le_of_ble_eq_true rfl) (bRe_isDigit_0 _ _ ⟨fun z => ?_, fun z => ⟨fun y => ?_, fun y => ?_⟩⟩)
  · rw [if_neg (fun k => e1.mp z ⟨(tk_1.mp k).1, (isd_rng (tk_1.mp k).2).1⟩)] at h; exact h
  · rw [if_neg (fun k => by have := (e2.mp y).2; have := isd_rng (tk_1.mp k).2; omega)] at h; exact h
  · have z' : p < n ∧ 48 ≤ tp p := Classical.byContradiction (fun k => z (e1.mpr k))
    have y' : ¬ (p < n ∧ 57 < tp p) := fun k => y (e2.mpr k)
    rw [if_pos (tk_1.mpr ⟨z'.1, decide_eq_true (by omega)⟩)] at h; exact h
theorem in_iff {v lo hi : Nat} {x2 : Int32} (hv : v ≤ 100000) (hlo : lo ≤ 1) (e2 : x2.toInt = (hi : Int) - 1) : (¬ nI v < nI lo ∧ ¬ x2 < nI v) ↔ (lo ≤ v ∧ v < hi) := by
  rw [nI_ltI (by omega) (by omega), Int32.lt_iff_toInt_lt, e2, nI_toInt (by omega)]
  omega
theorem ct_numberHere (M : Mm) {n : Nat} {tp : Nat → Nat} {q : Nat} (hA : RA M n tp q) (lo hi ng : Nat) (x1 x2 x3 : Int32) (e1 : x1 = nI lo) (hlo : lo ≤ 1) (e2 : x2.toInt = (hi : Int) - 1) (hhi : hi ≤ 10000) (e3 : ∀ v, v ≤ 100000 → (nI v = x3 ↔ v = ng)) (hd : 1 < d)
    (h1 : nOK n tp lo hi (rn n tp isb q) ∧ ¬ cvl n tp (rn n tp isb q) = ng → ∀ M', FrS X4 M M' → RA M' n tp (te n tp (rn n tp isb q)) → Φ (.inl (some (.int (nI (cvl n tp (rn n tp isb q)))))) M')
    (h0 : ¬ (nOK n tp lo hi (rn n tp isb q) ∧ ¬ (tk n tp (rn n tp isb q) = 1 ∧ cvl n tp (rn n tp isb q) = ng)) → ∀ M', FrS X46 M M' → RFt M' n tp (fcd n tp (rn n tp isb q)) (rn n tp isb q) (rn n tp isd (rn n tp isb q)) → Φ (.inl (some (.int 0))) M') : Ct l G d mRe_numberHere bc bs [.ref 206, .int x1, .int x2, .int x3] M Φ := by
  subst e1
  have hn := hA.1.2.2.1
  have hb := fun j hj => (hA.1.2.2.2 j hj).2
  refine Ct.of rfl (Nat.le_of_ble_eq_true rfl) (bRe_numberHere_0 _ _ _ _ _ ⟨hA.1.1.c, fun _ => CallVC.cps0 (by omega) (ct_blanksA M hA (by omega) (fun M1 F1 hA1 => ?_)), fun z => absurd hA.2.2.2 z⟩)
  clear hA
  generalize rn n tp isb q = p at hA1 h1 h0 ⊢
  have hpn := hA1.2.2.1
  refine bRe_numberHere_13 _ _ _ _ _ _ _ ⟨hA1.1.1.c, CallVC.cps0 (by omega) ?_⟩
  rw [hA1.2.1]
  refine ct_byteAt M1 hA1.1 p (by omega) (bRe_numberHere_30 _ _ _ _ _ _ _ _ (CallVC.cps0 (by omega) (ct_isDigitR M1 hb p (bRe_numberHere_33 _ _ _ _ _ _ _ _ ⟨fun z => ?_, fun z => ⟨hA1.1.1.c, CallVC.cps0 (by omega) ?_⟩⟩))))
  · have k := ite10.2 z
    have hfc : fcd n tp p = 2 := if_pos k
    have hle := rn_le (n := n) (tp := tp) (q := isd) p hpn
    have hge := rn_ge (n := n) (tp := tp) (q := isd) p
    have hst := rn_stop (n := n) (tp := tp) (q := isd) p
    have hin : ∀ i, p ≤ i → i < rn n tp isd p → 48 ≤ tp i ∧ tp i ≤ 57 := fun i h1 h2 => isd_rng (rn_in (n := n) (tp := tp) (q := isd) p i h1 h2)
    have key : ∀ r i v c M2, i + r = rn n tp isd p → p ≤ i → nvR v c → nvF tp r i c = cvl n tp p → FrS X4 M M2 → RA M2 n tp i → Ev l G d mRe_numberHere 45 [.ref 206, .int (nI lo), .int x2, .int x3, .int (nI p), .int (nI v)] [] M2 bc bs Φ := by
      intro r
      induction r with
      | zero =>
        intro i v c M2 hik hpi hv hc F2 hA2
        have hc' : c = cvl n tp p := hc
        have hit : ¬ tk n tp i = 1 := fun y => by
          have y' := tk_1.mp y
          have := hst (by omega)
          rw [show rn n tp isd p = i by omega] at this
          exact this y'.2
        have hv' : v ≤ 100000 := by unfold nvR at hv; omega
        refine bRe_numberHere_45 _ _ _ _ _ _ _ ⟨hA2.1.1.c, CallVC.cps0 (by omega) ?_⟩
        rw [hA2.2.1]
        refine ct_byteAt M2 hA2.1 i (by omega) (bRe_numberHere_53 _ _ _ _ _ _ _ _ (CallVC.cps0 (by omega) (ct_isDigitR M2 hb i (bRe_numberHere_56 _ _ _ _ _ _ _ _ ⟨fun _ => CallVC.cps0 (by omega) (ct_rIn M2 _ _ _ ?_), fun y => absurd (ite10.2 y) hit⟩))))
        have bad : ¬ (nOK n tp lo hi p ∧ ¬ cvl n tp p = ng) → Ev l G d mRe_numberHere 123 [.ref 206, .int (nI lo), .int x2, .int x3, .int (nI p), .int (nI v)] [] M2 bc bs Φ := fun y => by
          refine bRe_numberHere_123 _ _ _ _ _ _ _ ⟨hA2.1.1.c, CallVC.cps0 (by omega) (ct_wrong M2 hA2 2 p (by omega) (fun M3 F3 hF => bRe_numberHere_130 _ _ _ _ _ _ _ ⟨hF.1.1.c, fun _ => h0 (fun t => y ⟨t.1, fun u => t.2 ⟨k, u⟩⟩) M3 ((F2.mono X4_46).tr (F3.mono (fun a j k => by unfold X46; omega))) ?_, fun t => absurd t hF.ne⟩))⟩
          rw [hfc, show rn n tp isd p = i by omega]
          exact hF
        have eI := in_iff (lo := lo) (x2 := x2) hv' hlo e2
        refine bRe_numberHere_114 _ _ _ _ _ _ _ _ ⟨fun y => bad (fun t => ite10.1 y (eI.mpr ?_)), fun y => ⟨fun w => ?_, fun w => bad (fun t => ?_)⟩⟩
        · have := t.1.2; unfold nvR at hv; omega
        · have hin := eI.mp (ite10.2 y)
          have hvc : v = cvl n tp p := by unfold nvR at hv; omega
          have hng : ¬ v = ng := fun u => w ((e3 v hv').mpr u)
          refine bRe_numberHere_130 _ _ _ _ _ _ _ ⟨hA2.1.1.c, fun t => absurd hA2.2.2.2 t, fun _ => ?_⟩
          rw [hvc]
          rw [hvc] at hng hin
          refine h1 ⟨⟨k, hin.1, hin.2⟩, hng⟩ M2 F2 ?_
          rw [tk1_te k, show rn n tp isd p = i by omega]
          exact hA2
        · have hin := eI.mp (ite10.2 y)
          have hvc : v = cvl n tp p := by unfold nvR at hv; omega
          exact t.2 (by rw [← hvc]; exact (e3 v hv').mp w)
      | succ r ih =>
        intro i v c M2 hik hpi hv hc F2 hA2
        have hdg := hin i hpi (by omega)
        have hit : tk n tp i = 1 := tk_1.mpr ⟨by omega, decide_eq_true hdg⟩
        have hv' : v ≤ 100000 := by unfold nvR at hv; omega
        refine bRe_numberHere_45 _ _ _ _ _ _ _ ⟨hA2.1.1.c, CallVC.cps0 (by omega) ?_⟩
        rw [hA2.2.1]
        refine ct_byteAt M2 hA2.1 i (by omega) (bRe_numberHere_53 _ _ _ _ _ _ _ _ (CallVC.cps0 (by omega) (ct_isDigitR M2 hb i (bRe_numberHere_56 _ _ _ _ _ _ _ _ ⟨fun y => absurd hit (ite10.1 y), fun _ => ⟨hA2.1.1.c, CallVC.cps0 (by omega) ?_⟩⟩))))
        rw [hA2.2.1]
        refine ct_byteAt M2 hA2.1 i (by omega) ?_
        have hbt : bt n tp i = nI (tp i) := if_pos (by omega)
        have ev : nI 10 * nI v + nI (tp i) - nI 48 = nI (10 * v + tp i - 48) := by rw [pk_mul, nI_add, nI_sub (by omega)]
        have F3 : FrS X4 M2 (m_si M2 206 4 (nI (i + 1))) := FrS.si (P := X4) ⟨rfl, rfl⟩ _
        have hA3 : RA (m_si M2 206 4 (nI (i + 1))) n tp (i + 1) := hA2.x4 F3 (by rw [m_i_si, if_pos ⟨rfl, rfl⟩]) (by omega)
        have hc' : nvF tp r (i + 1) (if 9999 < c then c else c * 10 + tp i - 48) = cvl n tp p := hc
        rw [hbt]
        refine bRe_numberHere_72 _ _ _ _ _ _ _ _ _ ⟨fun y => ⟨hA2.1.1.c, ?_⟩, fun y => ⟨hA2.1.1.c, ?_⟩⟩
        · have y1 : nI 10 * nI v + nI (tp i) - nI 48 ≤ nI 100000 := y
          rw [ev] at y1
          have y2 := (nI_leI (by omega) (by omega)).mp y1
          rw [hA2.2.1, nI_1]
          show Ev l G d mRe_numberHere 45 [.ref 206, .int (nI lo), .int x2, .int x3, .int (nI p), .int (nI 10 * nI v + nI (tp i) - nI 48)] [] _ bc bs Φ
          rw [ev]
          refine ih (i + 1) _ _ _ (by omega) (by omega) ?_ hc' (F2.tr F3) hA3
          by_cases w : 9999 < c
          · rw [if_pos w]; unfold nvR at hv ⊢; omega
          · rw [if_neg w]; unfold nvR at hv ⊢; omega
        · have y1 : ¬ nI 10 * nI v + nI (tp i) - nI 48 ≤ nI 100000 := y
          rw [ev] at y1
          have y2 : ¬ 10 * v + tp i - 48 ≤ 100000 := fun t => y1 ((nI_leI (by omega) (by omega)).mpr t)
          rw [hA2.2.1, nI_1]
          show Ev l G d mRe_numberHere 45 [.ref 206, .int (nI lo), .int x2, .int x3, .int (nI p), .int (nI 100000)] [] _ bc bs Φ
          refine ih (i + 1) _ _ _ (by omega) (by omega) ?_ hc' (F2.tr F3) hA3
          by_cases w : 9999 < c
          · rw [if_pos w]; unfold nvR at hv ⊢; omega
          · rw [if_neg w]; unfold nvR at hv ⊢; omega
    exact key (rn n tp isd p - p) p 0 0 M1 (by omega) (by omega) (by unfold nvR; omega) rfl F1 hA1
  · have k := ite10.1 z
    have hrd : rn n tp isd p = p := by
      by_cases y : p < n
      · exact rn_no (fun t => k (tk_1.mpr ⟨y, t⟩))
      · exact rn_end (by omega)
    have hfc : fcd n tp p = 1 := if_neg k
    rw [hA1.2.1]
    refine ct_wrong M1 hA1 1 p (by omega) (fun M2 F2 hF => ?_)
    have h2 := h0 (fun t => k t.1.1) M2 ((F1.mono X4_46).tr (F2.mono (fun a j k => by unfold X46; omega))) (by rw [hfc, hrd]; exact hF)
    refine bRe_numberHere_45 _ _ _ _ _ _ _ ⟨hF.1.1.c, CallVC.cps0 (by omega) ?_⟩
    rw [hF.2.2.2.2.1]
    have h130 : Ev l G d mRe_numberHere 130 [.ref 206, .int (nI lo), .int x2, .int x3, .int (nI p), .int 0] [] M2 bc bs Φ := bRe_numberHere_130 _ _ _ _ _ _ _ ⟨hF.1.1.c, fun _ => h2, fun t => absurd t hF.ne⟩
    have h123 : Ev l G d mRe_numberHere 123 [.ref 206, .int (nI lo), .int x2, .int x3, .int (nI p), .int 0] [] M2 bc bs Φ := bRe_numberHere_123 _ _ _ _ _ _ _ ⟨hF.1.1.c, CallVC.cps0 (by omega) (ct_wrongF M2 hF _ _ h130)⟩
    refine ct_byteAt M2 hF.1 p (by omega) (bRe_numberHere_53 _ _ _ _ _ _ _ _ (CallVC.cps0 (by omega) (ct_isDigitR M2 hb p (bRe_numberHere_56 _ _ _ _ _ _ _ _ ⟨fun _ => CallVC.cps0 (by omega) (ct_rIn M2 _ _ _ ?_), fun y => absurd (ite10.2 y) k⟩))))
    exact bRe_numberHere_114 _ _ _ _ _ _ _ _ ⟨fun _ => h123, fun _ => ⟨fun _ => h130, fun _ => h123⟩⟩
end RNU
