/-! ===== InForce.take ===== -/
def PT (I : Nat) : Nat → Nat → Prop := fun a j => (a = I ∧ (j = 5 ∨ j = 6)) ∨ a = I + 1 ∨ a = I + 2 ∨ a = I + 3
def QT (I : Nat) : Nat → Nat → Prop := fun a j => a = I ∧ (j = 1 ∨ j = 2)
theorem IFsh.fx {M M' : Mm} {I : Nat} {X : Nat → Nat → Prop} (h : IFsh M I) (hF : FrX X (QT I) M M') : IFsh M' I := by
  obtain ⟨i0, i1, i2, i3, t1, t2, t3⟩ := h
  have hs := hF.2.2.2.1
  exact ⟨by rw [hs]; exact i0, by rw [hF.2.1 _ _ (by unfold QT; omega)]; exact i1, by rw [hF.2.1 _ _ (by unfold QT; omega)]; exact i2, by rw [hF.2.1 _ _ (by unfold QT; omega)]; exact i3, by rw [hs]; exact t1, by rw [hs]; exact t2, by rw [hs]; exact t3⟩
theorem mustF_none {R : List RU} {nu : Nat → Int32} {f : Nat → Nat → Int32} (h : nu 9 = -1) (g o h' : Nat) : mustF R nu f g o h' = false := by unfold mustF; rw [if_pos h]
theorem mustF_some {R : List RU} {nu : Nat → Int32} {f : Nat → Nat → Int32} {r : Nat} (hr : r < 10) (h : nu 9 = nI r) (g o h' : Nat) : mustF R nu f g o h' = decide (valR (R.getD r ru0) f g o h' = 1) := by
  unfold mustF
  rw [if_neg (by rw [h]; exact nI_neg (by omega)), h, nI_clamp (by omega)]
theorem worthF_none {R : List RU} {nu : Nat → Int32} {f : Nat → Nat → Int32} (h : nu 8 = -1) (g o h' : Nat) : worthF R nu f g o h' = 1 := by unfold worthF; rw [if_pos h]
theorem worthF_some {R : List RU} {nu : Nat → Int32} {f : Nat → Nat → Int32} {r : Nat} (hr : r < 10) (h : nu 8 = nI r) (g o h' : Nat) : worthF R nu f g o h' = heldS (valR (R.getD r ru0) f g o h') := by
  unfold worthF
  rw [if_neg (by rw [h]; exact nI_neg (by omega)), h, nI_clamp (by omega)]
/-- what the RULES in force say, out of the LAW as told -/
theorem LArep.says {M : Mm} {L : Nat} {R : List RU} (h : LArep M L R) (hR : ∀ r ∈ R, RUok r) (out n : Nat) (f : Nat → Nat → Int32) :
    ((nuS R out R.length 9 = -1 ∧ ∀ g o h, mustF R (nuS R out R.length) f g o h = false) ∨ ∃ r, nuS R out R.length 9 = nI r ∧ ruleS M L n f r (fun g o h => if mustF R (nuS R out R.length) f g o h then 1 else 0)) ∧
    ((nuS R out R.length 8 = -1 ∧ ∀ g o h, worthF R (nuS R out R.length) f g o h = 1) ∨ ∃ r v, nuS R out R.length 8 = nI r ∧ ruleS M L n f r v ∧ ∀ g o h, worthF R (nuS R out R.length) f g o h = heldS (v g o h)) := by
  have h10 := h.2.1
  constructor
  · rcases nuS_rule h10 (out := out) (Or.inr rfl) R.length (Nat.le_refl _) with q | ⟨r, r1, r2, r3⟩
    · exact Or.inl ⟨q, fun g o h => mustF_none q g o h⟩
    · refine Or.inr ⟨r, r2, ?_⟩
      have hru := h.rule hR r1 (by omega) n f
      obtain ⟨i0, c0, a1, a2, a3, a4, a5, a6⟩ := hru
      refine ⟨i0, c0, a1, a2, a3, a4, a5, fun g o h b1 b2 b3 => ?_⟩
      rw [a6 g o h b1 b2 b3]
      show _ = if mustF R (nuS R out R.length) f g o h = true then (1 : Int32) else 0
      rw [mustF_some (by omega) r2]
      have hm : R.getD r ru0 ∈ R := by
        rw [List.getD_eq_getElem?_getD, List.getElem?_eq_getElem r1]
        exact List.getElem_mem r1
      have hv := (hR _ hm).bool r3 (f g) (f o) (nI h)
      have hv' : valR (R.getD r ru0) f g o h = 0 ∨ valR (R.getD r ru0) f g o h = 1 := hv
      rcases hv' with e | e
      · rw [e]; rfl
      · rw [e]; rfl
  · rcases nuS_rule h10 (out := out) (Or.inl rfl) R.length (Nat.le_refl _) with q | ⟨r, r1, r2, r3⟩
    · exact Or.inl ⟨q, fun g o h => worthF_none q g o h⟩
    · exact Or.inr ⟨r, valR (R.getD r ru0) f, r2, h.rule hR r1 (by omega) n f, fun g o h => worthF_some (by omega) r2 g o h⟩
section STT
variable {l : Launch} {G : Gx} {d : Nat} {bc bs : Nat} {Φ : OutV → Mm → Prop}
theorem ct_take (M : Mm) (I L P : Nat) (R : List RU) (n : Nat) (f : Nat → Nat → Int32) (by_ : Nat → Nat) (hI : IFsh M I) (hL : LAok M L) (hLR : LArep M L R) (hR : ∀ r ∈ R, RUok r) (hP : PEok M P) (hPR : PErep M P n f by_) (hPL : P + 2 < L) (hLI : L + 6 < I) (out : Nat) (ho : out < 1024) (hm : ICm M I R n f) (hw : ICw M I R n f) (hd : 1 < d)
    (h : ∀ M', FrX (PT I) (QT I) M M' → IFinv M' I L P n f by_ (nuS R out R.length) (mustF R (nuS R out R.length) f) (worthF R (nuS R out R.length) f) → m_i M' I 5 = nuS R out R.length 9 → m_i M' I 6 = nuS R out R.length 8 → Φ (.inl none) M') : Ct l G d mIf_take bc bs [.ref I, .ref L, .ref P, .int (nI out)] M Φ := by
  have h10 := hLR.2.1
  refine Ct.of rfl (Nat.le_of_ble_eq_true rfl) ?_
  refine bIf_take_0 M I L P _ ⟨hI.1, ?_⟩
  have hF1 : FrX (PT I) (QT I) M (m_sr (m_sr M I 1 L) I 2 P) := (FrX.sr ⟨rfl, Or.inl rfl⟩ _).tr (FrX.sr ⟨rfl, Or.inr rfl⟩ _)
  have r1 : m_r (m_sr (m_sr M I 1 L) I 2 P) I 1 = L := by rw [m_r_sr, if_neg (by omega), m_r_sr, if_pos ⟨rfl, rfl⟩]
  have r2 : m_r (m_sr (m_sr M I 1 L) I 2 P) I 2 = P := by rw [m_r_sr, if_pos ⟨rfl, rfl⟩]
  have i1 : ∀ a j, m_i (m_sr (m_sr M I 1 L) I 2 P) a j = m_i M a j := fun _ _ => rfl
  generalize m_sr (m_sr M I 1 L) I 2 P = M1 at *
  have hI1 := hI.fx hF1
  have hL1 := hL.fx hF1 (fun j => by unfold QT; omega)
  have hP1 := hP.fx hF1 (fun j => by unfold QT; omega)
  have hLR1 : LArep M1 L R := hLR.fr (fun a _ _ j => i1 a j)
  have hPR1 : PErep M1 P n f by_ := hPR.fx (fun a _ _ j => i1 a j)
  refine bIf_take_10 M1 I L P _ _ _ ⟨hI1.1, CallVC.cps0 (by omega) ?_⟩
  refine ct_setWithout M1 I hI1 (by omega) ?_
  refine bIf_take_14 _ I L P _ _ _ ?_
  -- the last steps
  have hfin : ∀ (x4 : Int32) (u5 : Value), R.length = R.length → Ev l G d mIf_take 17 [.ref I, .ref L, .ref P, .int (nI out), .int (nI R.length), u5] [] (m_row M1 (I + 1) (fun k => if k < 10 then nuS R out R.length k else m_i M1 (I + 1) k)) bc bs Φ := fun x4 u5 _ => by
    have hF2 : FrX (PT I) (QT I) M1 (m_row M1 (I + 1) (fun k => if k < 10 then nuS R out R.length k else m_i M1 (I + 1) k)) := FrX.of (FrS.row (fun j => Or.inr (Or.inl rfl)) _)
    have hnu2 : ∀ k, k < 10 → m_i (m_row M1 (I + 1) (fun k => if k < 10 then nuS R out R.length k else m_i M1 (I + 1) k)) (I + 1) k = nuS R out R.length k := fun k hk => by rw [m_i_rowS, if_pos hk]
    have hi2 : ∀ a, a ≠ I + 1 → ∀ j, m_i (m_row M1 (I + 1) (fun k => if k < 10 then nuS R out R.length k else m_i M1 (I + 1) k)) a j = m_i M a j := fun a ha j => by rw [m_i_row, if_neg ha]; exact i1 a j
    have hr2 : ∀ a j, m_r (m_row M1 (I + 1) (fun k => if k < 10 then nuS R out R.length k else m_i M1 (I + 1) k)) a j = m_r M1 a j := fun _ _ => rfl
    generalize m_row M1 (I + 1) (fun k => if k < 10 then nuS R out R.length k else m_i M1 (I + 1) k) = M2 at *
    have hI2 := hI1.fx hF2
    obtain ⟨j0, j1, j2, j3, t1, t2, t3⟩ := id hI2
    have hL2 := hL1.fx hF2 (fun j => by unfold QT; omega)
    have hP2 := hP1.fx hF2 (fun j => by unfold QT; omega)
    -- behind the musts
    have h116 : ∀ M3 (v : Value), FrX (PT I) (QT I) M2 M3 → (∀ a, a ≠ I → a ≠ I + 2 → ∀ j, m_i M3 a j = m_i M2 a j) → (∀ a j, m_r M3 a j = m_r M2 a j) → m_i M3 I 5 = nuS R out R.length 9 → m_i M3 I 6 = m_i M I 6 →
        (∀ g o h, g < n → o < n → h < 17 → m_i M3 (I + 2) ((g * 8 + o) * 17 + h) = 0 ∨ m_i M3 (I + 2) ((g * 8 + o) * 17 + h) = if mustF R (nuS R out R.length) f g o h then 2 else 1) →
        Ev l G d mIf_take 116 [.ref I, .ref L, .ref P, .int (nI out), .int (nI R.length), v] [] M3 bc bs Φ := fun M3 v hF3 hi3 hr3 h5 h6 hmc => by
      have hI3 := hI2.fx hF3
      obtain ⟨k0, k1, k2, k3, z1, z2, z3⟩ := id hI3
      have hnu3 : ∀ k, k < 10 → m_i M3 (I + 1) k = nuS R out R.length k := fun k hk => by rw [hi3 _ (by omega) (by omega)]; exact hnu2 k hk
      have hdone : ∀ M4, FrX (PT I) (QT I) M3 M4 → (∀ a, a ≠ I → a ≠ I + 3 → ∀ j, m_i M4 a j = m_i M3 a j) → (∀ a j, m_r M4 a j = m_r M3 a j) → m_i M4 I 5 = nuS R out R.length 9 → m_i M4 I 6 = nuS R out R.length 8 →
          (∀ g o h, g < n → o < n → h < 17 → m_i M4 (I + 3) ((g * 8 + o) * 17 + h) = 0 ∨ m_i M4 (I + 3) ((g * 8 + o) * 17 + h) = worthF R (nuS R out R.length) f g o h + 1) → Φ (.inl none) M4 := fun M4 hF4 hi4 hr4 h5' h6' hwc => by
        have hin : ∀ a, a ≠ I → a ≠ I + 1 → a ≠ I + 2 → a ≠ I + 3 → ∀ j, m_i M4 a j = m_i M a j := fun a q1 q2 q3 q4 j => by rw [hi4 a q1 q4, hi3 a q1 q3, hi2 a q2]
        obtain ⟨w0, w1, w2, w3, y1, y2, y3⟩ := hI3.fx hF4
        have hLR4 : LArep M4 L R := hLR.fr (fun a _ _ j => hin a (by omega) (by omega) (by omega) (by omega) j)
        obtain ⟨s1, s2⟩ := hLR4.says hR out n f
        refine h M4 (((hF1.tr hF2).tr hF3).tr hF4) ⟨⟨w0, w1, ?_, ?_, w2, w3, y1, y2, y3⟩, (hL2.fx hF3 (fun j => by unfold QT; omega)).fx hF4 (fun j => by unfold QT; omega), (hP2.fx hF3 (fun j => by unfold QT; omega)).fx hF4 (fun j => by unfold QT; omega), hPR.fx (fun a _ _ j => hin a (by omega) (by omega) (by omega) (by omega) j), fun k hk => ?_, s1, s2, fun g o h q1 q2 q3 => ?_, hwc⟩ h5' h6'
        · rw [hr4, hr3, hr2]; exact r1
        · rw [hr4, hr3, hr2]; exact r2
        · rw [hi4 _ (by omega) (by omega)]; exact hnu3 k hk
        · rw [hi4 _ (by omega) (by omega)]; exact hmc g o h q1 q2 q3
      have e8 : m_i M3 (m_r M3 I 0) (8 : Int32).toNatClampNeg = nuS R out R.length 8 := by rw [k1]; exact hnu3 8 (by omega)
      refine bIf_take_116 M3 I L P _ _ v ⟨k0, by rw [k1, z1], by rw [k1, z1]; exact vp_in_dec rfl, ?_⟩
      rw [e8, h6]
      refine ⟨fun q => hdone M3 (FrX.rf _ _ _) (fun _ _ _ _ => rfl) (fun _ _ => rfl) h5 (by rw [h6]; exact q.symm) (fun g o hh b1 b2 b3 => ?_), fun q => CallVC.cps0 (by omega) ?_⟩
      · have hn8 := hPR.2.1
        have hx := ix17 (g := g) (o := o) (h := hh) (by omega) (by omega) b3
        rw [hi3 _ (by omega) (by omega), hi2 _ (by omega)]
        rcases hw with z | ⟨z1, z2⟩ | ⟨r, y1, y2, y3⟩
        · exact Or.inl (z _ hx.2)
        · rw [worthF_none (by rw [q]; exact z1)]
          exact z2 g o hh b1 b2 b3
        · rw [worthF_some (r := r) (by omega) (by rw [q]; exact y2)]
          exact y3 g o hh b1 b2 b3
      · rw [k3]
        refine ct_fillB M3 (I + 3) _ 1088 z3 (by decide) ?_
        have e8' : m_i (m_row M3 (I + 3) (fun j => if j < 1088 then vp_nar .byte 0 else m_i M3 (I + 3) j)) (m_r M3 I 0) (8 : Int32).toNatClampNeg = nuS R out R.length 8 := by rw [k1, m_i_row, if_neg (by omega)]; exact hnu3 8 (by omega)
        refine bIf_take_138 _ I L P _ _ v ⟨k0, by rw [m_r_row, k1, m_sh_row, z1], by rw [m_r_row, k1, m_sh_row, z1]; exact vp_in_dec rfl, ?_⟩
        rw [m_r_row, e8']
        refine hdone _ (FrX.of ((FrS.row (fun j => Or.inr (Or.inr (Or.inr rfl))) _).tr (FrS.si (Or.inl ⟨rfl, Or.inr rfl⟩) _))) (fun a q1 q2 j => ?_) (fun _ _ => rfl) ?_ ?_ (fun g o hh b1 b2 b3 => Or.inl ?_)
        · rw [m_i_si, if_neg (by omega), m_i_row, if_neg q2]
        · rw [m_i_si, if_neg (by omega), m_i_row, if_neg (by omega)]; exact h5
        · rw [m_i_si, if_pos ⟨rfl, rfl⟩]
        · have hn8 := hPR.2.1
          have hx := ix17 (g := g) (o := o) (h := hh) (by omega) (by omega) b3
          rw [m_i_si, if_neg (by omega), m_i_rowS, if_pos hx.2]
          rfl
    have e9 : m_i M2 (m_r M2 I 0) (9 : Int32).toNatClampNeg = nuS R out R.length 9 := by rw [j1]; exact hnu2 9 (by omega)
    have e5 : m_i M2 I 5 = m_i M I 5 := hi2 _ (by omega) _
    refine bIf_take_17 M2 I L P _ _ u5 ⟨hL2.1, fun _ => ⟨j0, by rw [j1, t1], by rw [j1, t1]; exact vp_in_dec rfl, ?_⟩, fun q => absurd (by rw [hi2 _ (by omega), hLR.1]; exact nI_le (Nat.le_refl _) (by omega)) q⟩
    rw [e9, e5]
    refine ⟨fun q => h116 M2 u5 (FrX.rf _ _ _) (fun _ _ _ _ => rfl) (fun _ _ => rfl) (by rw [e5]; exact q.symm) (hi2 _ (by omega) _) (fun g o hh b1 b2 b3 => ?_), fun q => CallVC.cps0 (by omega) ?_⟩
    · have hn8 := hPR.2.1
      have hx := ix17 (g := g) (o := o) (h := hh) (by omega) (by omega) b3
      rw [hi2 _ (by omega)]
      rcases hm with z | ⟨z1, z2⟩ | ⟨r, y1, y2, y3⟩
      · exact Or.inl (z _ hx.2)
      · rw [mustF_none (by rw [q]; exact z1)]
        exact z2 g o hh b1 b2 b3
      · rw [mustF_some (r := r) (by omega) (by rw [q]; exact y2)]
        exact y3 g o hh b1 b2 b3
    · rw [j2]
      refine ct_fillB M2 (I + 2) _ 1088 t2 (by decide) ?_
      have e9' : m_i (m_row M2 (I + 2) (fun j => if j < 1088 then vp_nar .byte 0 else m_i M2 (I + 2) j)) (m_r M2 I 0) (9 : Int32).toNatClampNeg = nuS R out R.length 9 := by rw [j1, m_i_row, if_neg (by omega)]; exact hnu2 9 (by omega)
      refine bIf_take_105 _ I L P _ _ u5 ⟨j0, by rw [m_r_row, j1, m_sh_row, t1], by rw [m_r_row, j1, m_sh_row, t1]; exact vp_in_dec rfl, ?_⟩
      rw [m_r_row, e9']
      refine h116 _ u5 (FrX.of ((FrS.row (fun j => Or.inr (Or.inr (Or.inl rfl))) _).tr (FrS.si (Or.inl ⟨rfl, Or.inl rfl⟩) _))) (fun a q1 q2 j => ?_) (fun _ _ => rfl) ?_ ?_ (fun g o hh b1 b2 b3 => Or.inl ?_)
      · rw [m_i_si, if_neg (by omega), m_i_row, if_neg q2]
      · rw [m_i_si, if_pos ⟨rfl, rfl⟩]
      · rw [m_i_si, if_neg (by omega), m_i_row, if_neg (by omega)]; exact hi2 _ (by omega) _
      · have hn8 := hPR.2.1
        have hx := ix17 (g := g) (o := o) (h := hh) (by omega) (by omega) b3
        rw [m_i_si, if_neg (by omega), m_i_rowS, if_pos hx.2]
        rfl
  have loop : ∀ e i (u5 : Value), i + e = R.length → Ev l G d mIf_take 17 [.ref I, .ref L, .ref P, .int (nI out), .int (nI i), u5] [] (m_row M1 (I + 1) (fun k => if k < 10 then nuS R out i k else m_i M1 (I + 1) k)) bc bs Φ := by
    intro e
    induction e with
    | zero =>
      intro i u5 hi
      have : i = R.length := by omega
      subst this
      exact hfin 0 u5 rfl
    | succ e ih =>
      intro i u5 hi
      obtain ⟨l0, l1, l2, -, -, -, -, s1, s2, -⟩ := id hL1
      obtain ⟨i0', i1', i2', i3', t1, t2, t3⟩ := id hI1
      obtain ⟨b1, b2, -⟩ := hLR1.2.2 i (by omega)
      have hru : RUok (R.getD i ru0) := hR _ (by
        rw [List.getD_eq_getElem?_getD, List.getElem?_eq_getElem (show i < R.length by omega)]
        exact List.getElem_mem _)
      generalize hrr : R.getD i ru0 = r at *
      obtain ⟨u1, u2, u3, -⟩ := hru
      have hcl : (nI i).toNatClampNeg = i := nI_clamp (by omega)
      have hn77 : ∀ M' (x5 : Int32), M' = m_row M1 (I + 1) (fun k => if k < 10 then nuS R out (i + 1) k else m_i M1 (I + 1) k) → Ev l G d mIf_take 77 [.ref I, .ref L, .ref P, .int (nI out), .int (nI i), .int x5] [] M' bc bs Φ := fun M' x5 eM => by
        subst eM
        refine bIf_take_77 _ I L P _ _ _ ?_
        rw [nI_1]
        exact ih (i + 1) _ (by omega)
      have ek : m_i (m_row M1 (I + 1) (fun k => if k < 10 then nuS R out i k else m_i M1 (I + 1) k)) (L + 1) i = nI r.1 := by rw [m_i_row, if_neg (by omega)]; exact b1
      have hst : ∀ v : Int32, ¬ out.testBit i = true → v = (if r.1 = 8 ∨ r.1 = 9 then nI i else nI r.2.1) → m_si (m_row M1 (I + 1) (fun k => if k < 10 then nuS R out i k else m_i M1 (I + 1) k)) (I + 1) (nI r.1).toNatClampNeg v = m_row M1 (I + 1) (fun k => if k < 10 then nuS R out (i + 1) k else m_i M1 (I + 1) k) := fun v hb hv => by
        rw [m_si_row, m_row_row, nI_clamp (by omega)]
        apply m_row_congr
        intro k
        rw [m_i_rowS]
        show _ = if k < 10 then (if out.testBit i = true then _ else if (R.getD i ru0).1 = k then (if k = 8 ∨ k = 9 then nI i else nI (R.getD i ru0).2.1) else _) else _
        rw [if_neg hb, hrr]
        by_cases hk : k = r.1
        · rw [if_pos hk, if_pos (by omega), if_pos hk.symm, hv, hk]
        · rw [if_neg hk, if_neg (show ¬ r.1 = k from fun q => hk q.symm)]
      refine bIf_take_17 _ I L P _ _ u5 ⟨l0, fun q => absurd q (by rw [m_i_row, if_neg (by omega), hLR1.1]; exact nI_not_le (by omega) (by omega)), fun _ => ?_⟩
      rw [m_r_row, m_r_row, m_r_row, l1, l2, i1', hcl, ek, bit_get10 ho (by omega)]
      refine ⟨by rw [m_sh_row, s1], by rw [m_sh_row, s1]; exact vp_in_nI (by omega) (by omega), fun q => hn77 _ _ ?_, fun q => ⟨i0', fun q2 => ⟨by rw [m_sh_row, t1], by rw [m_sh_row, t1]; exact vp_in_nI (by omega) (by omega), hn77 _ _ ?_⟩, fun q2 => ⟨fun q3 => ⟨by rw [m_sh_row, s2], by rw [m_sh_row, s2]; exact vp_in_nI (by omega) (by omega), by rw [m_sh_row, t1], by rw [m_sh_row, t1]; exact vp_in_nI (by omega) (by omega), hn77 _ _ ?_⟩, fun q3 => ⟨by rw [m_sh_row, t1], by rw [m_sh_row, t1]; exact vp_in_nI (by omega) (by omega), hn77 _ _ ?_⟩⟩⟩⟩
      · have hb : out.testBit i = true := by
          cases hb : out.testBit i with
          | true => rfl
          | false => rw [hb] at q; exact absurd rfl q
        apply m_row_congr
        intro k
        show _ = if k < 10 then (if out.testBit i = true then _ else _) else _
        rw [if_pos hb]
      · have hb : ¬ out.testBit i = true := by
          cases hb : out.testBit i with
          | false => decide
          | true => rw [hb] at q; exact absurd q (by decide)
        exact hst _ hb (by rw [if_pos (Or.inl ((nI_eq (b := 8) (by omega) (by omega)).mp q2))])
      · have hb : ¬ out.testBit i = true := by
          cases hb : out.testBit i with
          | false => decide
          | true => rw [hb] at q; exact absurd q (by decide)
        have k8 : r.1 ≠ 8 := fun e => q2 (by rw [e]; rfl)
        have k9 : r.1 ≠ 9 := fun e => q3 (by rw [e]; rfl)
        refine hst _ hb ?_
        rw [if_neg (by omega), m_i_row, if_neg (by omega)]
        exact b2 (by omega)
      · have hb : ¬ out.testBit i = true := by
          cases hb : out.testBit i with
          | false => decide
          | true => rw [hb] at q; exact absurd q (by decide)
        exact hst _ hb (by rw [if_pos (Or.inr ((nI_eq (b := 9) (by omega) (by omega)).mp q3))])
  exact loop R.length 0 _ (by omega)
end STT
