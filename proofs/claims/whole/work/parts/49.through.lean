/-! ===== Day: openCall, letPass, endCall, goThrough ===== -/
def CArep (M : Mm) (C : Nat) (r : CR) : Prop := CAin M C r.1 r.2.2.1 ∧ m_i M C 2 = r.2.1 ∧ m_i M C 4 = nI r.2.2.2.1 ∧ m_i M C 5 = r.2.2.2.2.1 ∧ m_i M C 6 = r.2.2.2.2.2.1 ∧ m_i M C 7 = if r.2.2.2.2.2.2 = true then 1 else 0
theorem CArep.fr {M M' : Mm} {C : Nat} {r : CR} {Q : Nat → Nat → Prop} (h : CArep M C r) (hF : FrS Q M M') (h0 : ∀ j, ¬ Q C j) (h1 : ∀ j, ¬ Q (C + 1) j) : CArep M' C r := by
  obtain ⟨a1, a2, a3, a4, a5, a6⟩ := h
  exact ⟨a1.fr hF (h0 _) (h0 _) (h0 _) h1, by rw [hF.1 _ _ (h0 _)]; exact a2, by rw [hF.1 _ _ (h0 _)]; exact a3, by rw [hF.1 _ _ (h0 _)]; exact a4, by rw [hF.1 _ _ (h0 _)]; exact a5, by rw [hF.1 _ _ (h0 _)]; exact a6⟩
def PBL (M : Mm) (B : Nat) (ps : List PR) : Prop := PBrep M B ps.length (p_g ps) (p_t ps) (p_w ps) (p_m ps)
theorem PBL.fr {M M' : Mm} {B : Nat} {ps : List PR} {Q : Nat → Nat → Prop} (h : PBL M B ps) (hF : FrS Q M M') (h0 : ¬ Q B 6) (h1 : ∀ j, ¬ Q (B + 1) j) (h2 : ∀ j, ¬ Q (B + 2) j) (h3 : ∀ j, ¬ Q (B + 3) j) (h4 : ∀ j, ¬ Q (B + 4) j) : PBL M' B ps :=
  ⟨by rw [hF.1 _ _ h0]; exact h.1, fun i hi => by rw [hF.1 _ _ (h1 i), hF.1 _ _ (h2 i), hF.1 _ _ (h3 i), hF.1 _ _ (h4 i)]; exact h.2 i hi⟩
theorem getD_app {α : Type} (l : List α) (x d : α) (i : Nat) : (l ++ [x]).getD i d = if i < l.length then l.getD i d else if i = l.length then x else d := by
  rw [List.getD_eq_getElem?_getD, List.getD_eq_getElem?_getD]
  by_cases h : i < l.length
  · rw [if_pos h, List.getElem?_append_left h]
  · rw [if_neg h, List.getElem?_append_right (by omega)]
    by_cases h2 : i = l.length
    · rw [if_pos h2, h2, Nat.sub_self]; rfl
    · rw [if_neg h2, List.getElem?_eq_none (by show 1 ≤ _; omega)]; rfl
theorem PBL.app {M : Mm} {B : Nat} {ps : List PR} (h : PBL M B ps) (x : PR) : PBL (m_si (m_si (m_si (m_si (m_si M (B + 1) ps.length (nI x.1)) (B + 2) ps.length (nI x.2.1)) (B + 3) ps.length x.2.2.1) (B + 4) ps.length x.2.2.2) B 6 (nI (ps.length + 1))) B (ps ++ [x]) := by
  have hlen : (ps ++ [x]).length = ps.length + 1 := by rw [List.length_append]; rfl
  refine ⟨by rw [hlen, m_i_si, if_pos ⟨rfl, rfl⟩], fun i hi => ?_⟩
  rw [hlen] at hi
  unfold p_g p_t p_w p_m
  rw [getD_app]
  by_cases h1 : i = ps.length
  · rw [if_neg (by omega), if_pos h1]
    simp [m_i_si, h1]
  · have hi2 : i < ps.length := by omega
    rw [if_pos hi2]
    obtain ⟨r1, r2, r3, r4⟩ := h.2 i hi2
    simp [m_i_si, h1]
    exact ⟨r1, r2, r3, r4⟩
def DS0 (M : Mm) (c : Cf) (D I A P : Nat) (s : Sg) : Prop := DIN M c D I A P ∧ PBL M (D + 4) (g_ps s) ∧ (∀ p, p < 8 → m_i M (D + 3) p = g_eo s p) ∧ m_i M D 13 = nI (g_sv s) ∧ ∀ k, k < (g_cs s).length → CArep M (D + 11 + 2 * k) ((g_cs s).getD k cr0)
theorem DS0.fr {M M' : Mm} {c : Cf} {D I A P : Nat} {s : Sg} {Q : Nat → Nat → Prop} (h : DS0 M c D I A P s) (hF : FrS Q M M') (hI : IFinv M' I A P (c_n c) (c_f c) (c_by c) (c_nu c) (c_mu c) (c_wo c))
    (hQ : ∀ a j, Q a j → a = I + 2 ∨ a = I + 3 ∨ a = A + 6 ∨ (a = D ∧ (j = 5 ∨ j = 10 ∨ j = 14 ∨ j = 15)) ∨ a = D + 1 ∨ a = D + 9 ∨ a = D + 10 ∨ D + 11 + 2 * (g_cs s).length ≤ a) : DS0 M' c D I A P s := by
  obtain ⟨h1, h2, h3, h4, h5⟩ := h
  obtain ⟨-, -, ⟨o1, o2, o3⟩, -⟩ := id h1
  have hn : ∀ a j, ¬ (a = I + 2 ∨ a = I + 3 ∨ a = A + 6 ∨ (a = D ∧ (j = 5 ∨ j = 10 ∨ j = 14 ∨ j = 15)) ∨ a = D + 1 ∨ a = D + 9 ∨ a = D + 10 ∨ D + 11 + 2 * (g_cs s).length ≤ a) → ¬ Q a j := fun a j z q => z (hQ a j q)
  refine ⟨h1.fr hF hI (hn _ _ (by omega)) (hn _ _ (by omega)) (hn _ _ (by omega)) (hn _ _ (by omega)) (hn _ _ (by omega)), h2.fr hF (hn _ _ (by omega)) (fun j => hn _ _ (by omega)) (fun j => hn _ _ (by omega)) (fun j => hn _ _ (by omega)) (fun j => hn _ _ (by omega)), fun p hp => by rw [hF.1 _ _ (hn _ _ (by omega))]; exact h3 p hp, by rw [hF.1 _ _ (hn _ _ (by omega))]; exact h4, fun k hk => (h5 k hk).fr hF (fun j => hn _ _ (by omega)) (fun j => hn _ _ (by omega))⟩
section SDT
variable {l : Launch} {G : Gx} {d : Nat} {bc bs : Nat} {Φ : OutV → Mm → Prop}
theorem ct_openCall (M : Mm) (c : Cf) (hc : cfOK c) (s : Sg) (hS : SOK c s) (D I A P : Nat) (hDI : DIN M c D I A P) (h15 : m_i M D 15 = nI (g_fr s)) (h13 : m_i M D 13 = nI (g_sv s)) (C : Nat) (hC : CAok M C) (hCD : D + 10 < C) (hd : 1 < d)
    (h0 : ∀ M', minS c s = none → Fr (fun a => a = C ∨ a = C + 1) M M' → Φ (.inl (some (.int 0))) M')
    (h1 : ∀ mm M', minS c s = some mm → gaS M M' C (nI mm) (thN c mm (g_sv s) (c_n c)) (thBits (thN c mm (g_sv s) (c_n c))) → Φ (.inl (some (.int 1))) M') :
    Ct l G d mDa_openCall bc bs [.ref D, .ref C] M Φ := by
  obtain ⟨⟨d0, d1, d2, d3, -⟩, hI, ⟨o1, o2, o3⟩, -⟩ := id hDI
  obtain ⟨⟨i0, i1, i2, i3, i4, i5, t1, t2, t3⟩, -, hE, hR, hnu, -⟩ := id hI
  obtain ⟨sh, s1, s2⟩ := hc.2.2.2.2.1
  have hfr := hS.2.2.2.2.2.2.2.1
  have hsv := hS.2.2.2.1
  have n5 : m_i M (m_r M (m_r M D 1) 0) (5 : Int32).toNatClampNeg = c_nu c 5 := by rw [d2, i1]; exact hnu 5 (by omega)
  have nsh : m_sh M (m_r M (m_r M D 1) 0) = (20, 10) := by rw [d2, i1]; exact t1
  refine Ct.of rfl (Nat.le_of_ble_eq_true rfl) ?_
  refine bDa_openCall_0 M D C ⟨d0, by rw [d2]; exact i0, by rw [nsh], by rw [nsh]; exact vp_in_dec rfl, ?_⟩
  rw [n5, h15, h13, d1]
  refine ⟨fun q => ⟨hC.1, CallVC.cps0 (by omega) ?_⟩, fun q => h0 M (by unfold minS; rw [if_neg q]) (Fr.rf _ _)⟩
  refine ct_gather M C P (c_n c) (c_f c) (c_by c) hC hE hR (by omega) _ _ (by omega) (fun M1 g1 => ?_)
  obtain ⟨e1, e2⟩ := th_eq hc hfr hsv (c_n c) (Nat.le_refl _)
  rw [e1, e2] at g1
  have hC1 := hC.of g1.1.2.1 g1.1.2.2.2.1
  have d1' : m_r M1 D 0 = P := by rw [g1.1.2.1]; exact d1
  have hlen := thN_mem (c := c) (mm := g_fr s) (sv := g_sv s) (c_n c)
  have hl8 : (thN c (g_fr s) (g_sv s) (c_n c)).length ≤ 8 := by have := (hS.th hc (g_fr s)).2.2; omega
  refine bDa_openCall_36 M1 D C _ _ ⟨hC1.1, fun z => ?_, fun z => ⟨by rw [g1.1.2.2.2.1]; exact d0, by rw [d1', g1.1.2.2.2.1]; exact hE.1, CallVC.cps0 (by omega) ?_⟩⟩
  · refine h1 (g_fr s) M1 ?_ g1
    unfold minS
    rw [if_pos q, if_neg (fun e => z (by rw [g1.2.1, e]; rfl))]
  · have hz : thN c (g_fr s) (g_sv s) (c_n c) = [] := by
      rw [g1.2.1] at z
      exact List.eq_nil_of_length_eq_zero ((nI_eq (b := 0) (by omega) (by omega)).mp z)
    have h15' : m_i M1 D 15 = nI (g_fr s) := by rw [g1.1.1 D (by omega)]; exact h15
    have h13' : m_i M1 D 13 = nI (g_sv s) := by rw [g1.1.1 D (by omega)]; exact h13
    have hR1 := hR.fr g1.1 (by omega) (by omega) (by omega)
    have hE1 := hE.of g1.1.2.1 g1.1.2.2.2.1
    rw [d1', h15']
    refine ct_nextMinute M1 P (c_n c) (c_f c) (c_by c) hE1 hR1 _ (by omega) ?_
    rw [next_eq hc hfr _ _ (by omega)]
    refine bDa_openCall_54 M1 D C _ _ _ ⟨fun y => ?_, fun y => ⟨fun y2 => ⟨by rw [g1.1.2.2.2.1]; exact d0, hC1.1, CallVC.cps0 (by omega) ?_⟩, fun y2 => ?_⟩⟩
    · cases hn : nextN c (g_fr s) 0 (c_n c) with
      | none =>
        refine h0 M1 ?_ g1.1
        unfold minS
        rw [if_pos q, if_pos hz, hn]
      | some m =>
        have := (next_le hc _ _ _ (by omega) hn).1
        rw [hn] at y
        exact absurd y (nI_neg (by omega))
    · cases hn : nextN c (g_fr s) 0 (c_n c) with
      | none => rw [hn] at y; exact absurd rfl y
      | some m =>
        have hm9 := (next_le hc _ _ _ (by omega) hn).1
        rw [hn] at y2
        rw [d1', h13']
        refine ct_gather M1 C P (c_n c) (c_f c) (c_by c) hC1 hE1 hR1 (by omega) (nI m) _ (by omega) (fun M2 g2 => ?_)
        obtain ⟨e3, e4⟩ := th_eq hc (mm := m) (sv := g_sv s) (by omega) hsv (c_n c) (Nat.le_refl _)
        rw [e3, e4] at g2
        refine bDa_openCall_80 M2 D C _ _ ?_
        refine h1 m M2 ?_ ⟨g1.1.tr g2.1, g2.2⟩
        unfold minS
        rw [if_pos q, if_pos hz, hn]
        exact if_pos y2
    · cases hn : nextN c (g_fr s) 0 (c_n c) with
      | none => rw [hn] at y; exact absurd rfl y
      | some m =>
        rw [hn] at y2
        refine h0 M1 ?_ g1.1
        unfold minS
        rw [if_pos q, if_pos hz, hn]
        exact if_neg y2
def PL (D I A : Nat) : Nat → Nat → Prop := fun a j => a = I + 3 ∨ a = A + 6 ∨ (D + 5 ≤ a ∧ a ≤ D + 8) ∨ (a = D + 4 ∧ j = 6)
/-- the passes to the one at the g-th place -/
def passS (c : Cf) (L : List Nat) (mm p g : Nat) : List PR := (L.take g).map (fun q => (q, p, c_wo c q p (mm / 60), nI mm))
theorem ct_letPass (M : Mm) (c : Cf) (hc : cfOK c) (D I A P : Nat) (hDI : DIN M c D I A P) (C : Nat) (L : List Nat) (mm : Nat) (hC : CAin M C L mm) (hL : LOK c L) (hm : mm < 999) (hCD : D + 10 < C) (g : Nat) (hg : g < L.length) (h5 : m_i M C 5 = nI (L.getD g 0)) (ps : List PR) (hP : PBL M (D + 4) ps) (hps : ps.length + g ≤ 28) (hd : 2 < d)
    (h : ∀ M', FrS (PL D I A) M M' → IFinv M' I A P (c_n c) (c_f c) (c_by c) (c_nu c) (c_mu c) (c_wo c) → PBL M' (D + 4) (ps ++ passS c L mm (L.getD g 0) g) → Φ (.inl none) M') : Ct l G d mDa_letPass bc bs [.ref D, .ref C] M Φ := by
  have n8 := hc.1
  obtain ⟨l1, l8, lp, ln⟩ := id hL
  obtain ⟨hD, hI, ⟨o1, o2, o3⟩, -⟩ := id hDI
  have hgp := lp g hg
  refine Ct.of rfl (Nat.le_of_ble_eq_true rfl) ?_
  refine bDa_letPass_0 M D C ⟨hC.1.1, ?_⟩
  rw [hC.2.2.2.2, nI_60 (by omega)]
  have loop : ∀ e i M' (w : Value), i + e = g → FrS (PL D I A) M M' → IFinv M' I A P (c_n c) (c_f c) (c_by c) (c_nu c) (c_mu c) (c_wo c) → PBL M' (D + 4) (ps ++ passS c L mm (L.getD g 0) i) → Ev l G d mDa_letPass 10 [.ref D, .ref C, .int (nI (mm / 60)), .int (nI i), w] [] M' bc bs Φ := by
    intro e
    induction e with
    | zero =>
      intro i M' w hi hF hI' hP'
      have hig : i = g := by omega
      subst hig
      have hC' := hC.fr hF (by unfold PL; omega) (by unfold PL; omega) (by unfold PL; omega) (fun j => by unfold PL; omega)
      obtain ⟨⟨c0, c1, c2⟩, a1, a2, a3, a4⟩ := id hC'
      have h5' : m_i M' C 5 = nI (L.getD i 0) := by rw [hF.1 _ _ (by unfold PL; omega)]; exact h5
      have er : m_i M' (m_r M' C 0) (nI i).toNatClampNeg = nI (L.getD i 0) := by rw [c1, nI_clamp (by omega)]; exact a2 i hg
      refine bDa_letPass_10 M' D C _ _ w ⟨c0, fun q => absurd q (by rw [a1]; exact nI_not_le (by omega) (by omega)), fun _ => ⟨by rw [c1, c2], by rw [c1, c2]; exact vp_in_nI (by omega) (by omega), fun _ => h M' hF hI' hP', fun q => absurd (by rw [er, h5']) q⟩⟩
    | succ e ih =>
      intro i M' w hi hF hI' hP'
      have hC' := hC.fr hF (by unfold PL; omega) (by unfold PL; omega) (by unfold PL; omega) (fun j => by unfold PL; omega)
      obtain ⟨⟨c0, c1, c2⟩, a1, a2, a3, a4⟩ := id hC'
      have hD' := hD.of hF.2.1 hF.2.2.2.1
      obtain ⟨d0, d1, d2, d3, -, -, d6, -, -, -, pb, -⟩ := id hD'
      have hip := lp i (by omega)
      have h5' : m_i M' C 5 = nI (L.getD g 0) := by rw [hF.1 _ _ (by unfold PL; omega)]; exact h5
      have er : m_i M' (m_r M' C 0) (nI i).toNatClampNeg = nI (L.getD i 0) := by rw [c1, nI_clamp (by omega)]; exact a2 i (by omega)
      have hne : L.getD i 0 ≠ L.getD g 0 := by
        rw [List.getD_eq_getElem?_getD, List.getD_eq_getElem?_getD, List.getElem?_eq_getElem (show i < L.length by omega), List.getElem?_eq_getElem hg]
        exact (List.pairwise_iff_getElem.mp ln) i g (by omega) hg (by omega)
      have hps' : (ps ++ passS c L mm (L.getD g 0) i).length = ps.length + i := by
        unfold passS
        rw [List.length_append, List.length_map, List.length_take]
        omega
      refine bDa_letPass_10 M' D C _ _ w ⟨c0, fun q => absurd q (by rw [a1]; exact nI_not_le (by omega) (by omega)), fun _ => ⟨by rw [c1, c2], by rw [c1, c2]; exact vp_in_nI (by omega) (by omega), fun q => absurd ((nI_eq (by omega) (by omega)).mp (by rw [← er, ← h5']; exact q)) hne, fun _ => ⟨d0, by rw [d2]; exact hI'.1.1, CallVC.cps0 (by omega) ?_⟩⟩⟩
      rw [er, h5', d2, d6]
      refine ct_passWorth M' I A P _ _ _ _ _ _ hI' o1 o2 (L.getD i 0) (L.getD g 0) (mm / 60) hip hgp (by omega) (by omega) (fun M2 hF2 hI2 => ?_)
      have hS2 : FrS (PL D I A) M' M2 := FrS.of hF2 (fun a j q => q.elim Or.inl (fun q => Or.inr (Or.inl q)))
      have hFn := hF.tr hS2
      have pb2 := pb.of hF2.2.1 hF2.2.2.2.1
      have hP2 : PBL M2 (D + 4) (ps ++ passS c L mm (L.getD g 0) i) := hP'.fr (Q := fun a j => a = I + 3 ∨ a = A + 6) (FrS.of hF2 (fun a j q => q)) (by omega) (fun j => by omega) (fun j => by omega) (fun j => by omega) (fun j => by omega)
      have h3' : m_i M2 C 3 = nI mm := by rw [hFn.1 _ _ (by unfold PL; omega)]; exact hC.2.2.2.2
      refine bDa_letPass_63 M2 D C _ _ _ _ _ _ _ ⟨by rw [hF2.2.2.2.1]; exact c0, pb2.1, CallVC.cps0 (by omega) ?_⟩
      rw [h3']
      refine ct_write M2 (D + 4) (ps.length + i) pb2 (by rw [← hps']; exact hP2.1) (by omega) _ _ _ _ ?_
      refine bDa_letPass_70 _ D C _ _ _ ?_
      rw [nI_1]
      have hap := hP2.app (L.getD i 0, L.getD g 0, c_wo c (L.getD i 0) (L.getD g 0) (mm / 60), nI mm)
      rw [hps'] at hap
      have eL : passS c L mm (L.getD g 0) (i + 1) = passS c L mm (L.getD g 0) i ++ [(L.getD i 0, L.getD g 0, c_wo c (L.getD i 0) (L.getD g 0) (mm / 60), nI mm)] := by
        unfold passS
        have hgi : L[i]? = some (L.getD i 0) := by rw [List.getD_eq_getElem?_getD, List.getElem?_eq_getElem (show i < L.length by omega)]; rfl
        rw [List.take_add_one, hgi, List.map_append]
        rfl
      refine ih (i + 1) _ _ (by omega) ?_ ?_ (by rw [eL, ← List.append_assoc]; exact hap)
      · exact hFn.tr ((((((FrS.si (Or.inr (Or.inr (Or.inl (by omega)))) _).tr (FrS.si (Or.inr (Or.inr (Or.inl (by omega)))) _)).tr (FrS.si (Or.inr (Or.inr (Or.inl (by omega)))) _)).tr (FrS.si (Or.inr (Or.inr (Or.inl (by omega)))) _)).tr (FrS.si (Or.inr (Or.inr (Or.inr ⟨rfl, rfl⟩))) _)))
      · exact hI2.fr (Q := fun a => D < a) (((((Fr.si (by omega) _ _).tr (Fr.si (by omega) _ _)).tr (Fr.si (by omega) _ _)).tr (Fr.si (by omega) _ _)).tr (Fr.si (by omega) _ _)) (by intro a ha; omega)
  refine loop g 0 M _ (by omega) (FrS.rf _ _) hI ?_
  have : passS c L mm (L.getD g 0) 0 = [] := by unfold passS; rw [List.take_zero]; rfl
  rw [this, List.append_nil]
  exact hP
def PE (D I A C : Nat) : Nat → Nat → Prop := fun a j => PL D I A a j ∨ (a = C ∧ j = 6) ∨ a = D + 3 ∨ (a = D ∧ (j = 13 ∨ j = 15))
theorem ct_endCall (M : Mm) (c : Cf) (hc : cfOK c) (D I A P : Nat) (hDI : DIN M c D I A P) (C : Nat) (L : List Nat) (mm : Nat) (hC : CAin M C L mm) (hL : LOK c L) (hm : mm < 999) (hCD : D + 10 < C) (g : Nat) (hg : g < L.length) (h5 : m_i M C 5 = nI (L.getD g 0)) (off : Nat) (h4 : m_i M C 4 = nI off) (un : Bool) (h7 : m_i M C 7 = if un = true then 1 else 0) (sv : Nat) (hsv : sv < 256) (h13 : m_i M D 13 = nI sv) (ps : List PR) (hP : PBL M (D + 4) ps) (hps : ps.length + g ≤ 28) (hd : 3 < d)
    (h : ∀ M', FrS (PE D I A C) M M' → IFinv M' I A P (c_n c) (c_f c) (c_by c) (c_nu c) (c_mu c) (c_wo c) → PBL M' (D + 4) (ps ++ if un = true then [] else passS c L mm (L.getD g 0) g) → m_i M' C 6 = nI mm + c_nu c 6 * nI off + c_f c (L.getD g 0) 3 →
      (∀ q, m_i M' (D + 3) q = if q = L.getD g 0 then nI mm + c_nu c 6 * nI off + c_f c (L.getD g 0) 3 else m_i M (D + 3) q) → m_i M' D 13 = nI (sv ||| 2 ^ L.getD g 0) → m_i M' D 15 = nI mm + c_nu c 6 * nI off + c_f c (L.getD g 0) 3 → Φ (.inl none) M') : Ct l G d mDa_endCall bc bs [.ref D, .ref C] M Φ := by
  have n8 := hc.1
  obtain ⟨l1, l8, lp, ln⟩ := id hL
  have hgp := lp g hg
  obtain ⟨⟨d0, d1, d2, d3, d9, d11, d12, s1, s2, s3, pb, dk⟩, hI, ⟨o1, o2, o3⟩, b3, b4, b6, b7⟩ := id hDI
  obtain ⟨⟨i0, i1, i2, i3, i4, i5, t1, t2, t3⟩, -, hE, hR, hnu, -⟩ := id hI
  obtain ⟨⟨c0, c1, c2⟩, a1, a2, a3, a4⟩ := id hC
  have n6 : m_i M (m_r M (m_r M D 1) 0) (6 : Int32).toNatClampNeg = c_nu c 6 := by rw [d2, i1]; exact hnu 6 (by omega)
  have nsh : m_sh M (m_r M (m_r M D 1) 0) = (20, 10) := by rw [d2, i1]; exact t1
  generalize hp : L.getD g 0 = p at *
  refine Ct.of rfl (Nat.le_of_ble_eq_true rfl) ?_
  refine bDa_endCall_0 M D C ⟨c0, fun _ => ⟨d0, by rw [d2]; exact i0, by rw [nsh], by rw [nsh]; exact vp_in_dec rfl, by rw [d1]; exact hE.1, CallVC.cps0 (by omega) ?_⟩, fun q => absurd q (by rw [h5]; exact nI_neg (by omega))⟩
  rw [n6, a4, h4, h5, d1]
  refine ct_fact M P p 3 hE (by omega) (by omega) ?_
  rw [hR.2.2.1 p 3 hgp (by omega)]
  generalize he : nI mm + c_nu c 6 * nI off + c_f c p 3 = e at *
  have q5 : m_i (m_si M C 6 e) C 5 = nI p := by rw [m_i_si, if_neg (by omega)]; exact h5
  have q6 : m_i (m_si M C 6 e) C 6 = e := by rw [m_i_si, if_pos ⟨rfl, rfl⟩]
  refine bDa_endCall_50 M D C C _ _ ⟨c0, d0, c0, by rw [d11, s3], by rw [he, q5, d11, s3]; exact vp_in_nI (by omega) (by omega), ?_⟩
  rw [he, q5, q6, d11, nI_clamp (by omega)]
  have r5 : m_i (m_si (m_si M C 6 e) (D + 3) p e) C 5 = nI p := by rw [m_i_si, if_neg (by omega)]; exact q5
  have r13 : m_i (m_si (m_si M C 6 e) (D + 3) p e) D 13 = nI sv := by rw [m_i_si, if_neg (by omega), m_i_si, if_neg (by omega)]; exact h13
  obtain ⟨z1, z2⟩ := bit_set (s := sv) (p := p) hsv (by omega)
  refine bDa_endCall_67 _ D C ⟨d0, c0, ?_⟩
  rw [r5, r13, z1]
  have r6 : m_i (m_si (m_si (m_si M C 6 e) (D + 3) p e) D 13 (nI (sv ||| 2 ^ p))) C 6 = e := by rw [m_i_si, if_neg (by omega), m_i_si, if_neg (by omega)]; exact q6
  rw [r6]
  have hF4 : FrS (PE D I A C) M (m_si (m_si (m_si (m_si M C 6 e) (D + 3) p e) D 13 (nI (sv ||| 2 ^ p))) D 15 e) := (((FrS.si (Or.inr (Or.inl ⟨rfl, rfl⟩)) _).tr (FrS.si (Or.inr (Or.inr (Or.inl rfl))) _)).tr (FrS.si (Or.inr (Or.inr (Or.inr ⟨rfl, Or.inl rfl⟩))) _)).tr (FrS.si (Or.inr (Or.inr (Or.inr ⟨rfl, Or.inr rfl⟩))) _)
  have x6 : m_i (m_si (m_si (m_si (m_si M C 6 e) (D + 3) p e) D 13 (nI (sv ||| 2 ^ p))) D 15 e) C 6 = e := by rw [m_i_si, if_neg (by omega)]; exact r6
  have x13 : m_i (m_si (m_si (m_si (m_si M C 6 e) (D + 3) p e) D 13 (nI (sv ||| 2 ^ p))) D 15 e) D 13 = nI (sv ||| 2 ^ p) := by rw [m_i_si, if_neg (by omega), m_i_si, if_pos ⟨rfl, rfl⟩]
  have x15 : m_i (m_si (m_si (m_si (m_si M C 6 e) (D + 3) p e) D 13 (nI (sv ||| 2 ^ p))) D 15 e) D 15 = e := by rw [m_i_si, if_pos ⟨rfl, rfl⟩]
  have xe : ∀ q, m_i (m_si (m_si (m_si (m_si M C 6 e) (D + 3) p e) D 13 (nI (sv ||| 2 ^ p))) D 15 e) (D + 3) q = if q = p then e else m_i M (D + 3) q := fun q => by
    rw [m_i_si, if_neg (by omega), m_i_si, if_neg (by omega), m_i_si]
    by_cases y : q = p
    · rw [if_pos ⟨rfl, y⟩, if_pos y]
    · rw [if_neg (fun w => y w.2), if_neg y, m_i_si, if_neg (by omega)]
  have hP4 : PBL (m_si (m_si (m_si (m_si M C 6 e) (D + 3) p e) D 13 (nI (sv ||| 2 ^ p))) D 15 e) (D + 4) ps := by
    refine hP.fr (Q := fun a j => a = C ∨ a = D + 3 ∨ a = D) ((((FrS.si (Or.inl rfl) _).tr (FrS.si (Or.inr (Or.inl rfl)) _)).tr (FrS.si (Or.inr (Or.inr rfl)) _)).tr (FrS.si (Or.inr (Or.inr rfl)) _)) (by omega) (fun j => by omega) (fun j => by omega) (fun j => by omega) (fun j => by omega)
  have hI4 := hI.fr (Q := fun a => a = C ∨ a = D + 3 ∨ a = D) ((((Fr.si (M := M) (a := C) (Or.inl rfl) 6 e).tr (Fr.si (Or.inr (Or.inl rfl)) p e)).tr (Fr.si (Or.inr (Or.inr rfl)) 13 (nI (sv ||| 2 ^ p)))).tr (Fr.si (Or.inr (Or.inr rfl)) 15 e)) (by intro a ha; omega)
  generalize m_si (m_si (m_si (m_si M C 6 e) (D + 3) p e) D 13 (nI (sv ||| 2 ^ p))) D 15 e = M4 at *
  have hC4 : CAin M4 C L mm := hC.fr hF4 (by unfold PE PL; omega) (by unfold PE PL; omega) (by unfold PE PL; omega) (fun j => by unfold PE PL; omega)
  have h7' : m_i M4 C 7 = if un = true then 1 else 0 := by rw [hF4.1 _ _ (by unfold PE PL; omega)]; exact h7
  have h5' : m_i M4 C 5 = nI p := by rw [hF4.1 _ _ (by unfold PE PL; omega)]; exact h5
  have hDI4 : DIN M4 c D I A P := hDI.fr hF4 hI4 (by unfold PE PL; omega) (by unfold PE PL; omega) (by unfold PE PL; omega) (by unfold PE PL; omega) (by unfold PE PL; omega)
  refine bDa_endCall_90 M4 D C ⟨hC4.1.1, fun q => ?_, fun q => ⟨hDI4.1.1, CallVC.cps0 (by omega) ?_⟩⟩
  · have hun : un = true := by
      cases un with
      | true => rfl
      | false => exact absurd h7' q
    refine h M4 hF4 hI4 ?_ x6 xe x13 x15
    rw [if_pos hun, List.append_nil]
    exact hP4
  · have hun : un = false := by
      cases un with
      | false => rfl
      | true => rw [h7'] at q; exact absurd q (by decide)
    refine ct_letPass M4 c hc D I A P hDI4 C L mm hC4 hL hm hCD g hg (by rw [hp]; exact h5') ps hP4 hps (by omega) (fun M5 hF5 hI5 hP5 => ?_)
    rw [hp] at hP5
    refine bDa_endCall_102 M5 D C ?_
    refine h M5 (hF4.tr (hF5.mono (fun a j q => Or.inl q))) hI5 (by rw [if_neg (by rw [hun]; decide)]; exact hP5) (by rw [hF5.1 _ _ (by unfold PL; omega)]; exact x6) (fun q => by rw [hF5.1 _ _ (by unfold PL; omega)]; exact xe q) (by rw [hF5.1 _ _ (by unfold PL; omega)]; exact x13) (by rw [hF5.1 _ _ (by unfold PL; omega)]; exact x15)
theorem ct_endCallN (M : Mm) (D C : Nat) (hD : (m_sh M D).1 = 1) (hC : (m_sh M C).1 = 0) (h5 : m_i M C 5 = -1) (h : Φ (.inl none) (m_si M D 15 (m_i M C 3))) : Ct l G d mDa_endCall bc bs [.ref D, .ref C] M Φ := by
  refine Ct.of rfl (Nat.le_of_ble_eq_true rfl) ?_
  exact bDa_endCall_0 M D C ⟨hC, fun q => absurd h5 q, fun _ => ⟨hD, h⟩⟩
end SDT
