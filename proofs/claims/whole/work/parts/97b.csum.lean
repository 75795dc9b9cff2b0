/-! ===== Law: sums ===== -/
theorem stL_l {S T : List Int32} {j : Nat} (h : j < S.length) : stL (S ++ T) j = stL S j := by
  unfold stL
  rw [List.getD_eq_getElem?_getD, List.getD_eq_getElem?_getD, List.getElem?_append_left h]
theorem stL_r {S T : List Int32} {j : Nat} : stL (S ++ T) (S.length + j) = stL T j := by
  unfold stL
  rw [List.getD_eq_getElem?_getD, List.getD_eq_getElem?_getD, List.getElem?_append_right (Nat.le_add_right _ _), Nat.add_sub_cancel_left]
/-- what has been read since M: the steps S -/
def LPg (M M1 : Mm) (A i k i1 : Nat) (S : List Int32) : Prop := FrS (XLs A) M M1 ∧ LAst M1 A (k + S.length) ∧ i + S.length ≤ i1 ∧ (∀ j, j < k → m_i M1 (A + 5) j = m_i M (A + 5) j) ∧ ∀ j, j < S.length → m_i M1 (A + 5) (k + j) = stL S j
theorem LPg.b {M M1 M2 : Mm} {A i k i1 i2 : Nat} {S : List Int32} (h : LPg M M1 A i k i1 S) (hF : FrS XB M1 M2) (hi : i1 ≤ i2) : LPg M M2 A i k i2 S := by
  obtain ⟨h1, h2, h3, h4, h5⟩ := h
  have h6 := h2.2.2.2
  exact ⟨h1.tr (hF.mono XB_Ls), h2.fr hF XB_le, by omega, fun j hj => by rw [hF.1 _ _ (by unfold XB; omega)]; exact h4 j hj, fun j hj => by rw [hF.1 _ _ (by unfold XB; omega)]; exact h5 j hj⟩
theorem LPg.app {M M1 M2 : Mm} {A i k i1 i2 : Nat} {S T : List Int32} (h : LPg M M1 A i k i1 S) (hF : FrS (XLs A) M1 M2) (hA : LAst M2 A (k + S.length + T.length)) (hi : i1 + T.length ≤ i2) (h1 : ∀ j, j < k + S.length → m_i M2 (A + 5) j = m_i M1 (A + 5) j) (h2 : ∀ j, j < T.length → m_i M2 (A + 5) (k + S.length + j) = stL T j) : LPg M M2 A i k i2 (S ++ T) := by
  obtain ⟨g1, g2, g3, g4, g5⟩ := h
  refine ⟨g1.tr hF, by rw [List.length_append, ← Nat.add_assoc]; exact hA, by rw [List.length_append]; omega, fun j hj => (h1 j (by omega)).trans (g4 j hj), fun j hj => ?_⟩
  rw [List.length_append] at hj
  by_cases z : j < S.length
  · rw [h1 _ (by omega), g5 j z, stL_l z]
  · obtain ⟨q, rfl⟩ : ∃ q, j = S.length + q := ⟨j - S.length, by omega⟩
    rw [stL_r, ← Nat.add_assoc]
    exact h2 q (by omega)
theorem LPg.one {M M1 M2 : Mm} {A i k i1 i2 k' : Nat} {S : List Int32} {v : Int32} (h : LPg M M1 A i k i1 S) (hF : FrS (fun a j => (a = A ∧ j = 6) ∨ a = A + 5) M1 M2) (hA : LAst M2 A k') (hlt : k + S.length < 500) (hi : i1 + 1 ≤ i2) (hs : k + S.length < 500 → k' = k + S.length + 1 ∧ (∀ j, j < k + S.length → m_i M2 (A + 5) j = m_i M1 (A + 5) j) ∧ m_i M2 (A + 5) (k + S.length) = v) : LPg M M2 A i k i2 (S ++ [v]) := by
  obtain ⟨e1, e2, e3⟩ := hs hlt
  refine h.app (T := [v]) (hF.mono (fun a j z => by unfold XLs; omega)) (by rw [List.length_singleton, ← e1]; exact hA) (by rw [List.length_singleton]; exact hi) e2 (fun j hj => ?_)
  have : j = 0 := by rw [List.length_singleton] at hj; omega
  subst this
  exact e3
theorem LPg.ok {M M1 : Mm} {A n : Nat} {tp : Nat → Nat} {sz i k i1 : Nat} {S : List Int32} {r : Pr} {Φ : OutV → Mm → Prop} (h : LPg M M1 A i k i1 S) (hT : TKS M1 n tp sz i1) (hr : r = (0, tb n tp i1, S)) (hp : LdPost M A n tp sz i k r Φ) : Φ (.inl (some (.int 1))) M1 := by
  subst hr
  exact hp.1 rfl M1 i1 h.1 hT rfl h.2.2.1 h.2.1 h.2.2.2.1 h.2.2.2.2
theorem sb0 : sb 0 = 0 := rfl
theorem sg_lt {M : Mm} {n : Nat} {tp : Nat → Nat} {sz i : Nat} (hT : TKS M n tp sz i) : sg n tp (tb n tp i) < 256 := by
  unfold sg
  split
  · exact hT.2.2.2.2.2 _ (hT.lt (by omega)).2
  · omega
section CSU
variable {l : Launch} {G : Gx} {d : Nat} {bc bs : Nat} {Φ : OutV → Mm → Prop}
theorem sum_loop (M : Mm) {A n : Nat} {tp : Nat → Nat} {sz i k : Nat} (hki : k ≤ i) (a b : Nat) (hab : 0 < a ∧ a < 48 ∧ 0 < b ∧ b < 48) (x4 : Int32) (f : Nat → Pr) (r : Pr) (hd : 2 < d)
    (sub : ∀ M1 i1 k1 x6 x7, TKS M1 n tp sz i1 → LAst M1 A k1 → k1 ≤ i1 → LdPost M1 A n tp sz i1 k1 (f (tb n tp i1)) (fun o M2 => ∃ v, o = .inl (some (.int v)) ∧ Ev l G d mLa_readSum 94 [.ref A, .ref 102, .int (nI a), .int (nI b), .int x4, .int 1, .int x6, .int x7] [.int v] M2 bc bs Φ) → Ev l G d mLa_readSum 67 [.ref A, .ref 102, .int (nI a), .int (nI b), .int x4, .int 1, .int x6, .int x7] [] M1 bc bs Φ)
    (hp : LdPost M A n tp sz i k r Φ) : ∀ q c M1 i1 S, c + q = 500 → TKS M1 n tp sz i1 → LPg M M1 A i k i1 S → joinL n tp (isO n tp a b) (fun p => stF (sg n tp p)) f q (tb n tp i1) S = r → Ev l G d mLa_readSum 38 [.ref A, .ref 102, .int (nI a), .int (nI b), .int x4, .int 1, .int (sb (sg n tp (tb n tp i1))), .int (nI c)] [] M1 bc bs Φ := by
  intro q
  induction q with
  | zero =>
    intro c M1 i1 S hc hT hL he
    exact bLa_readSum_38 M1 _ _ _ _ _ _ _ _ ⟨fun _ => ⟨rfl, hL.ok hT he.symm hp⟩, fun z => absurd (by show nI 500 ≤ nI c; exact nI_le (by omega) (by omega)) z⟩
  | succ q ih =>
    intro c M1 i1 S hc hT hL he
    have hsg := sg_lt hT
    have he' : (if isO n tp a b (tb n tp i1) = true then (if (f (nx n tp (tb n tp i1))).1 = 0 then joinL n tp (isO n tp a b) (fun p => stF (sg n tp p)) f q (f (nx n tp (tb n tp i1))).2.1 (S ++ (f (nx n tp (tb n tp i1))).2.2 ++ [stF (sg n tp (tb n tp i1))]) else ((f (nx n tp (tb n tp i1))).1, (f (nx n tp (tb n tp i1))).2.1, [])) else (0, tb n tp i1, S)) = r := he
    have op : (sg n tp (tb n tp i1) = a ∨ sg n tp (tb n tp i1) = b) → Ev l G d mLa_readSum 63 [.ref A, .ref 102, .int (nI a), .int (nI b), .int x4, .int 1, .int (sb (sg n tp (tb n tp i1))), .int (nI c)] [] M1 bc bs Φ := fun ho => by
      rw [if_pos (show isO n tp a b (tb n tp i1) = true from decide_eq_true ho)] at he'
      have hs128 : sg n tp (tb n tp i1) < 128 := by omega
      rw [sb_l hs128]
      refine bLa_readSum_63 M1 _ _ _ _ _ _ _ _ ⟨hT.1.1, CallVC.cps0 (by omega) (ct_goOn M1 hT (sg_k (by omega)) (fun M2 F2 hT2 => ?_))⟩
      have hL2 := hL.b F2 (i2 := i1 + 1) (by omega)
      have enx : nx n tp (tb n tp i1) = tb n tp (i1 + 1) := rfl
      rw [enx] at he'
      have hki1 : k + S.length ≤ i1 + 1 := by have := hL.2.2.1; omega
      refine sub M2 (i1 + 1) (k + S.length) _ _ hT2 hL2.2.1 hki1 ⟨fun e M3 i3 F3 hT3 hpos hi3 hA3 g1 g2 => ⟨1, rfl, ?_⟩, fun e M3 i3 k3 F3 hT3 hfl hA3 => ⟨0, rfl, ?_⟩⟩
      · rw [if_pos e] at he'
        have hlen : k + S.length + (f (tb n tp (i1 + 1))).2.2.length < 500 := by
          have := hL.2.2.1
          have := hT3.2.2.1
          have := hT3.2.1.2.1
          have := hT3.2.2.2.2.1
          omega
        have hL3 : LPg M M3 A i k (i3 - 1) (S ++ (f (tb n tp (i1 + 1))).2.2) := (LPg.app (i1 := i1) ⟨hL2.1, hL2.2.1, hL.2.2.1, hL2.2.2.2.1, hL2.2.2.2.2⟩ F3 hA3 (by omega) g1 g2)
        refine bLa_readSum_94 M3 _ _ _ _ _ _ _ _ _ (CallVC.cps0 (by omega) (ct_stepFor M3 _ hs128 ?_))
        refine bLa_readSum_102 M3 _ _ _ _ _ _ _ _ _ _ ⟨hA3.1.1, CallVC.cps0 (by omega) ?_⟩
        refine ct_addStep M3 hL3.2.1 _ (fun M4 k4 F4 hA4 hs4 => ?_)
        have hlen' : k + (S ++ (f (tb n tp (i1 + 1))).2.2).length < 500 := by rw [List.length_append]; omega
        have hL4 := hL3.one (i2 := i3) F4 hA4 hlen' (by omega) hs4
        have hT4 : TKS M4 n tp sz i3 := hT3.keepS F4 (fun a j h1 h2 => by have := hA3.2.2.2; omega)
        refine bLa_readSum_105 M4 _ _ _ _ _ _ _ _ ⟨hT4.1.1, CallVC.cps0 (by omega) (ct_signHere M4 hT4 ?_)⟩
        refine bLa_readSum_109 M4 _ _ _ _ _ _ _ _ _ ?_
        rw [nI_1]
        exact ih (c + 1) M4 i3 _ (by omega) hT4 hL4 (by rw [hpos]; exact he')
      · rw [if_neg e] at he'
        refine bLa_readSum_94 M3 _ _ _ _ _ _ _ _ _ (CallVC.cps0 (by omega) (ct_stepFor M3 _ hs128 ?_))
        refine bLa_readSum_102 M3 _ _ _ _ _ _ _ _ _ _ ⟨hA3.1.1, CallVC.cps0 (by omega) ?_⟩
        refine ct_addStep M3 hA3 _ (fun M4 k4 F4 hA4 _ => ?_)
        have hT4 : TKS M4 n tp sz i3 := hT3.keepS F4 (fun a j h1 h2 => by have := hA3.2.2.2; omega)
        refine bLa_readSum_105 M4 _ _ _ _ _ _ _ _ ⟨hT4.1.1, CallVC.cps0 (by omega) (ct_signHere M4 hT4 ?_)⟩
        refine bLa_readSum_109 M4 _ _ _ _ _ _ _ _ _ ?_
        have fin : Φ (.inl (some (.int 0))) M4 := by
          subst he'
          have h6 := hA3.2.2.2
          exact hp.2 e M4 i3 k4 ((hL2.1.mono XLs_f).tr (F3.tr (F4.mono (fun a j z => by unfold XLf; omega)))) hT4 ⟨by rw [F4.1 _ _ (by omega)]; exact hfl.1, by rw [F4.1 _ _ (by omega)]; exact hfl.2⟩ hA4
        exact bLa_readSum_38 M4 _ _ _ _ _ _ _ _ ⟨fun _ => ⟨rfl, fin⟩, fun _ => ⟨fun _ => ⟨rfl, fin⟩, fun z => absurd rfl z⟩⟩
    have ea : sb (sg n tp (tb n tp i1)) = nI a ↔ sg n tp (tb n tp i1) = a := sb_eq hsg (by omega)
    have eb : sb (sg n tp (tb n tp i1)) = nI b ↔ sg n tp (tb n tp i1) = b := sb_eq hsg (by omega)
    refine bLa_readSum_38 M1 _ _ _ _ _ _ _ _ ⟨fun z => absurd z (by show ¬ nI 500 ≤ nI c; exact nI_not_le (by omega) (by omega)), fun _ => ⟨fun z => absurd z (by decide), fun _ => ⟨fun z => op (Or.inl (ea.mp z)), fun z => ⟨fun y => ⟨rfl, ?_⟩, fun y => op (Or.inr (eb.mp y))⟩⟩⟩⟩
    rw [if_neg (show ¬ isO n tp a b (tb n tp i1) = true from fun w => (of_decide_eq_true w).elim (fun q => z (ea.mpr q)) (fun q => y (eb.mpr q)))] at he'
    exact hL.ok hT he'.symm hp
theorem LPg.rf {M : Mm} {A k : Nat} (h : LAst M A k) (i : Nat) : LPg M M A i k i [] := ⟨FrS.rf _ _, h, Nat.le_refl _, fun _ _ => rfl, fun j hj => absurd hj (by show ¬ j < 0; omega)⟩
theorem sum_enter (M : Mm) {A n : Nat} {tp : Nat → Nat} {sz i k : Nat} (hki : k ≤ i) (a b : Nat) (hab : 0 < a ∧ a < 48 ∧ 0 < b ∧ b < 48) (x4 : Int32) (u5 u6 u7 : Value) (f : Nat → Pr) (hd : 2 < d)
    (sub : ∀ M1 i1 k1 x6 x7, TKS M1 n tp sz i1 → LAst M1 A k1 → k1 ≤ i1 → LdPost M1 A n tp sz i1 k1 (f (tb n tp i1)) (fun o M2 => ∃ v, o = .inl (some (.int v)) ∧ Ev l G d mLa_readSum 94 [.ref A, .ref 102, .int (nI a), .int (nI b), .int x4, .int 1, .int x6, .int x7] [.int v] M2 bc bs Φ) → Ev l G d mLa_readSum 67 [.ref A, .ref 102, .int (nI a), .int (nI b), .int x4, .int 1, .int x6, .int x7] [] M1 bc bs Φ)
    (hp : LdPost M A n tp sz i k (joinF n tp (isO n tp a b) (fun p => stF (sg n tp p)) f (tb n tp i)) Φ) : LdPost M A n tp sz i k (f (tb n tp i)) (fun o M2 => ∃ v, o = .inl (some (.int v)) ∧ Ev l G d mLa_readSum 27 [.ref A, .ref 102, .int (nI a), .int (nI b), .int x4, u5, u6, u7] [.int v] M2 bc bs Φ) := by
  refine ⟨fun e M1 i1 F1 hT1 hpos hi1 hA1 g1 g2 => ⟨1, rfl, ?_⟩, fun e M1 i1 k1 F1 hT1 hfl hA1 => ⟨0, rfl, ?_⟩⟩
  · refine bLa_readSum_27 M1 _ _ _ _ _ _ _ _ _ ⟨hT1.1.1, CallVC.cps0 (by omega) (ct_signHere M1 hT1 ?_)⟩
    refine bLa_readSum_33 M1 _ _ _ _ _ _ _ _ _ ?_
    refine sum_loop M hki a b hab x4 f _ hd sub hp 500 0 M1 i1 (f (tb n tp i)).2.2 rfl hT1 ⟨F1, hA1, hi1, g1, g2⟩ ?_
    unfold joinF
    rw [if_pos e, hpos]
  · have e1 : joinF n tp (isO n tp a b) (fun p => stF (sg n tp p)) f (tb n tp i) = ((f (tb n tp i)).1, (f (tb n tp i)).2.1, []) := if_neg e
    rw [e1] at hp
    refine bLa_readSum_27 M1 _ _ _ _ _ _ _ _ _ ⟨hT1.1.1, CallVC.cps0 (by omega) (ct_signHere M1 hT1 ?_)⟩
    refine bLa_readSum_33 M1 _ _ _ _ _ _ _ _ _ ?_
    have fin := hp.2 e M1 i1 k1 F1 hT1 hfl hA1
    exact bLa_readSum_38 M1 _ _ _ _ _ _ _ _ ⟨fun _ => ⟨rfl, fin⟩, fun _ => ⟨fun _ => ⟨rfl, fin⟩, fun z => absurd rfl z⟩⟩
end CSU
section CSV
variable {l : Launch} {G : Gx}
/-- a reader of the LAW: as f tells -/
def RDR (l : Launch) (G : Gx) (A n : Nat) (tp : Nat → Nat) (sz : Nat) (d : Nat) (y : MR) (av : List Value) (f : Nat → Pr) : Prop := ∀ bc bs Φ M i k, TKS M n tp sz i → LAst M A k → k ≤ i → LdPost M A n tp sz i k (f (tb n tp i)) Φ → Ct l G d y bc bs av M Φ
theorem rd_prod {A n : Nat} {tp : Nat → Nat} {sz d : Nat} {f : Nat → Pr} (x4 : Int32) (hd : 2 < d) (hs : RDR l G A n tp sz (d - 1) mLa_readOperand [.ref A, .ref 102, .int x4] f) : RDR l G A n tp sz d mLa_readSum [.ref A, .ref 102, .int 42, .int 47, .int x4] (prodF n tp f) := by
  intro bc bs Φ M i k hT hA hki hp
  refine Ct.of rfl (Nat.le_of_ble_eq_true rfl) (bLa_readSum_0 M _ _ _ _ _ ⟨fun _ => ⟨hA.1.1, CallVC.cps0 (by omega) ?_⟩, fun z => absurd z (by decide)⟩)
  refine hs _ _ _ M i k hT hA hki ((sum_enter (l := l) (G := G) (d := d) (bc := bc) (bs := bs) M hki 42 47 (by omega) x4 .null .null .null f hd (fun M1 i1 k1 x6 x7 hT1 hA1 hk1 h1 => ?_) hp).im (fun o M2 ⟨v, e, hv⟩ => by subst e; exact hv))
  refine bLa_readSum_67 M1 _ _ _ _ _ _ _ _ ⟨fun _ => ⟨hA1.1.1, CallVC.cps0 (by omega) ?_⟩, fun z => absurd z (by decide)⟩
  exact hs _ _ _ M1 i1 k1 hT1 hA1 hk1 (h1.im (fun o M2 ⟨v, e, hv⟩ => by subst e; exact hv))
theorem rd_sum {A n : Nat} {tp : Nat → Nat} {sz d : Nat} {f : Nat → Pr} (x4 : Int32) (hd : 3 < d) (hs : RDR l G A n tp sz (d - 1) mLa_readSum [.ref A, .ref 102, .int 42, .int 47, .int x4] (prodF n tp f)) : RDR l G A n tp sz d mLa_readSum [.ref A, .ref 102, .int 43, .int 45, .int x4] (sumF n tp f) := by
  intro bc bs Φ M i k hT hA hki hp
  refine Ct.of rfl (Nat.le_of_ble_eq_true rfl) (bLa_readSum_0 M _ _ _ _ _ ⟨fun z => absurd rfl z, fun _ => ⟨hA.1.1, CallVC.cps0 (by omega) ?_⟩⟩)
  refine hs _ _ _ M i k hT hA hki ((sum_enter (l := l) (G := G) (d := d) (bc := bc) (bs := bs) M hki 43 45 (by omega) x4 .null .null .null (prodF n tp f) (by omega) (fun M1 i1 k1 x6 x7 hT1 hA1 hk1 h1 => ?_) hp).im (fun o M2 ⟨v, e, hv⟩ => by subst e; exact bLa_readSum_17 M2 _ _ _ _ _ _ _ _ _ hv))
  refine bLa_readSum_67 M1 _ _ _ _ _ _ _ _ ⟨fun z => absurd rfl z, fun _ => ⟨hA1.1.1, CallVC.cps0 (by omega) ?_⟩⟩
  exact hs _ _ _ M1 i1 k1 hT1 hA1 hk1 (h1.im (fun o M2 ⟨v, e, hv⟩ => by subst e; exact bLa_readSum_84 M2 _ _ _ _ _ _ _ _ _ hv))
theorem rd_op {A n : Nat} {tp : Nat → Nat} {sz d o : Nat} (ho : o ≤ 6) (hd : 1 < d) (hs : ∀ o', o = o' + 1 → RDR l G A n tp sz (d - 1) mLa_readSum [.ref A, .ref 102, .int 43, .int 45, .int (nI (6 - o'))] (sumS n tp o')) : RDR l G A n tp sz d mLa_readOperand [.ref A, .ref 102, .int (nI (6 - o))] (opS n tp o) := by
  intro bc bs Φ M i k hT hA hki hp
  have hsg := sg_lt hT
  have hw := wd_rng n tp (tb n tp i)
  have h6 := hA.2.2.2
  have hone : ∀ M1 (v : Int32), FrS XB M M1 → TKS M1 n tp sz (i + 1) → opS n tp o (tb n tp i) = (0, nx n tp (tb n tp i), [v]) → Ev l G d mLa_readOperand 90 [.ref A, .ref 102, .int (nI (6 - o)), .int v] [] M1 bc bs Φ := fun M1 v F1 hT1 he => by
    have hA1 := hA.fr F1 XB_le
    refine bLa_readOperand_90 M1 _ _ _ _ ⟨hA1.1.1, CallVC.cps0 (by omega) (ct_addStep M1 hA1 v (fun M2 k2 F2 hA2 hs2 => ?_))⟩
    refine bLa_readOperand_95 M2 _ _ _ _ ?_
    have hlt : k < 500 := by
      have := hT1.2.2.1
      have := hT1.2.1.2.1
      have := hT1.2.2.2.2.1
      omega
    have hL := ((LPg.rf hA i).b F1 (Nat.le_refl i)).one (v := v) (i2 := i + 1) F2 hA2 (by simpa using hlt) (by omega) (fun _ => by simpa using hs2 hlt)
    exact hL.ok (hT1.keepS F2 (fun a j h1 h2 => by omega)) he hp
  have hrest : ∀ hi sm, opS n tp o = unitF n tp hi sm → ¬ sg n tp (tb n tp i) = 40 → ∀ u, Ev l G d mLa_readOperand 59 [.ref A, .ref 102, .int (nI (6 - o)), u] [.ref (wd n tp (tb n tp i))] M bc bs Φ := fun hi sm he hne u => by
    have e0 : opS n tp o (tb n tp i) = if wM (wd n tp (tb n tp i)) < 0 then (0, nx n tp (tb n tp i), [wM (wd n tp (tb n tp i))]) else if nOK n tp 0 10000 (tb n tp i) then (0, nx n tp (tb n tp i), [nI (cvl n tp (tb n tp i))]) else (fcd n tp (tb n tp i), tb n tp i, []) := by
      rw [he]
      exact if_neg hne
    refine bLa_readOperand_59 M _ _ _ _ _ ⟨hw, fun z => ⟨hT.1.1, CallVC.cps0 (by omega) ?_⟩, fun z => ⟨hT.1.1, CallVC.cps0 (by omega) ?_⟩⟩
    · rw [if_neg (fun y => absurd z (Int32.not_le.mpr y))] at e0
      refine ct_takeNumber M hT 0 10000 _ _ rfl (by omega) (by decide) (fun ok M1 F1 hT1 => ?_) (fun bad M1 F1 hT1 hfl => ?_)
      · rw [if_pos ok] at e0
        exact bLa_readOperand_82 M1 _ _ _ _ _ ⟨fun _ => hone M1 _ F1 hT1 e0, fun y => absurd y (nI_ne_m1 (cvl_lt _ _ _))⟩
      · rw [if_neg bad] at e0
        rw [e0] at hp
        exact bLa_readOperand_82 M1 _ _ _ _ _ ⟨fun y => absurd rfl y, fun _ => hp.2 (fcd_ne _ _ _) M1 i k (F1.mono XA_Lf) hT1 hfl (hA.fr F1 XA_le)⟩
    · have z' := Int32.not_le.mp z
      rw [if_pos z'] at e0
      have hk0 : ¬ tk n tp (tb n tp i) = 0 := wd_k (fun y => by rw [y] at z'; exact absurd z' (by decide))
      exact ct_goOn M hT hk0 (fun M1 F1 hT1 => bLa_readOperand_71 M1 _ _ _ _ (hone M1 _ F1 hT1 e0))
  refine Ct.of rfl (Nat.le_of_ble_eq_true rfl) (bLa_readOperand_0 M _ _ _ ⟨hT.1.1, CallVC.cps0 (by omega) (ct_signHere M hT ?_)⟩)
  have e40 : sb (sg n tp (tb n tp i)) = 40 ↔ sg n tp (tb n tp i) = 40 := sb_eq (c := 40) hsg (by omega)
  refine bLa_readOperand_4 M _ _ _ _ _ ⟨fun z => ⟨hT.1.1, CallVC.cps0 (by omega) (ct_here M hT ?_)⟩, fun z => ⟨fun y => ⟨hT.1.1, CallVC.cps0 (by omega) ?_⟩, fun y => ⟨hT.1.1, CallVC.cps0 (by omega) ?_⟩⟩⟩
  · cases o with
    | zero => exact hrest _ _ rfl (fun q => z (e40.mpr q)) _
    | succ o => exact hrest _ _ rfl (fun q => z (e40.mpr q)) _
  · have z' := e40.mp z
    cases o with
    | zero => exact absurd y (by decide)
    | succ o =>
      have e0 : opS n tp (o + 1) (tb n tp i) = cloP n tp 41 (sumS n tp o (tb n tp (i + 1))) := if_pos z'
      rw [e0] at hp
      refine ct_goOn M hT (sg_k (by omega)) (fun M1 F1 hT1 => ?_)
      have hA1 := hA.fr F1 XB_le
      refine bLa_readOperand_25 M1 _ _ _ _ ⟨hA1.1.1, CallVC.cps0 (by omega) ?_⟩
      rw [nI_1, show 6 - (o + 1) + 1 = 6 - o by omega]
      refine hs o rfl _ _ _ M1 (i + 1) k hT1 hA1 (by omega) ⟨fun e M2 i2 F2 hT2 hpos hi2 hA2 g1 g2 => ?_, fun e M2 i2 k2 F2 hT2 hfl hA2 => ?_⟩
      · refine bLa_readOperand_37 M2 _ _ _ _ _ ⟨fun q => absurd q (by decide), fun _ => ⟨hT2.1.1, CallVC.cps0 (by omega) ?_⟩⟩
        have hL2 := ((LPg.rf hA i).b F1 (i2 := i + 1) (by omega)).app F2 hA2 hi2 g1 g2
        refine ct_takeSign M2 hT2 41 (by omega) (fun ok M3 F3 hT3 => ?_) (fun bad M3 F3 hT3 hfl => ?_)
        · refine bLa_readOperand_46 M3 _ _ _ _ _ ⟨fun q => absurd q (by decide), fun _ => ?_⟩
          rw [hpos] at ok
          refine (hL2.b F3 (i2 := i2 + 1) (by omega)).ok hT3 ?_ hp
          unfold cloP
          rw [if_pos e, if_pos ok]
          show _ = (0, nx n tp (tb n tp i2), _)
          rw [hpos]
          rfl
        · refine bLa_readOperand_46 M3 _ _ _ _ _ ⟨fun _ => ?_, fun q => absurd rfl q⟩
          rw [hpos] at bad hfl
          have e1 : cloP n tp 41 (sumS n tp o (tb n tp (i + 1))) = (1, (sumS n tp o (tb n tp (i + 1))).2.1, []) := by unfold cloP; rw [if_pos e, if_neg bad]
          rw [e1] at hp
          exact hp.2 (by show ¬ 1 = 0; decide) M3 i2 _ ((hL2.1.mono XLs_f).tr (F3.mono XA_Lf)) hT3 hfl (hA2.fr F3 XA_le)
      · refine bLa_readOperand_37 M2 _ _ _ _ _ ⟨fun _ => ?_, fun q => absurd rfl q⟩
        have e1 : cloP n tp 41 (sumS n tp o (tb n tp (i + 1))) = sumS n tp o (tb n tp (i + 1)) := if_neg e
        rw [e1] at hp
        exact hp.2 e M2 i2 k2 ((F1.mono XB_Lf).tr F2) hT2 hfl hA2
  · have z' := e40.mp z
    cases o with
    | zero =>
      have e0 : opS n tp 0 (tb n tp i) = (3, tb n tp i, []) := if_pos z'
      rw [e0] at hp
      refine ct_fail M hT 3 3 rfl (fun M1 F1 hT1 hfl => ?_)
      exact bLa_readOperand_20 M1 _ _ _ _ _ ⟨rfl, hp.2 (by show ¬ 3 = 0; decide) M1 i k (F1.mono XA_Lf) hT1 hfl (hA.fr F1 XA_le)⟩
    | succ o => exact absurd (by show nI (6 - (o + 1)) < nI 6; exact nI_lt (by omega) (by omega)) y
theorem rd_sums {A n : Nat} {tp : Nat → Nat} {sz : Nat} : ∀ o, o ≤ 6 → ∀ d, 3 * o + 3 < d → RDR l G A n tp sz d mLa_readSum [.ref A, .ref 102, .int 43, .int 45, .int (nI (6 - o))] (sumS n tp o)
  | 0, ho, d, hd => rd_sum _ (by omega) (rd_prod _ (by omega) (rd_op ho (by omega) (fun o' h => absurd h (by omega))))
  | o + 1, ho, d, hd => rd_sum _ (by omega) (rd_prod _ (by omega) (rd_op ho (by omega) (fun o' h => by
      have : o' = o := by omega
      subst this
      exact rd_sums o' (by omega) _ (by omega))))
end CSV
