/-! ===== Day: the class's side ===== -/
def FrS (P : Nat → Nat → Prop) (M M' : Mm) : Prop := (∀ a j, ¬ P a j → m_i M' a j = m_i M a j) ∧ (∀ a j, m_r M' a j = m_r M a j) ∧ (∀ a j, m_l M' a j = m_l M a j) ∧ (∀ a, m_sh M' a = m_sh M a) ∧ m_nx M' = m_nx M
theorem FrS.rf (P : Nat → Nat → Prop) (M : Mm) : FrS P M M := ⟨fun _ _ _ => rfl, fun _ _ => rfl, fun _ _ => rfl, fun _ => rfl, rfl⟩
theorem FrS.tr {P : Nat → Nat → Prop} {M M' M2 : Mm} (h : FrS P M M') (h2 : FrS P M' M2) : FrS P M M2 :=
  ⟨fun a j ha => (h2.1 a j ha).trans (h.1 a j ha), fun a j => (h2.2.1 a j).trans (h.2.1 a j), fun a j => (h2.2.2.1 a j).trans (h.2.2.1 a j), fun a => (h2.2.2.2.1 a).trans (h.2.2.2.1 a), h2.2.2.2.2.trans h.2.2.2.2⟩
theorem FrS.mono {P Q : Nat → Nat → Prop} {M M' : Mm} (h : FrS P M M') (hPQ : ∀ a j, P a j → Q a j) : FrS Q M M' := ⟨fun a j ha => h.1 a j (fun q => ha (hPQ a j q)), h.2⟩
theorem FrS.si {P : Nat → Nat → Prop} {M : Mm} {a k : Nat} (h : P a k) (v : Int32) : FrS P M (m_si M a k v) :=
  ⟨fun b j hb => by rw [m_i_si, if_neg (fun (q : b = a ∧ j = k) => hb (by rw [q.1, q.2]; exact h))], fun _ _ => rfl, fun _ _ => rfl, fun _ => rfl, rfl⟩
theorem FrS.row {P : Nat → Nat → Prop} {M : Mm} {a : Nat} (h : ∀ j, P a j) (f : Nat → Int32) : FrS P M (m_row M a f) :=
  ⟨fun b j hb => by rw [m_i_row, if_neg (fun (q : b = a) => hb (by rw [q]; exact h j))], fun _ _ => rfl, fun _ _ => rfl, fun _ => rfl, rfl⟩
theorem FrS.of {Q : Nat → Prop} {P : Nat → Nat → Prop} {M M' : Mm} (h : Fr Q M M') (hQ : ∀ a j, Q a → P a j) : FrS P M M' := ⟨fun a j ha => h.1 a (fun q => ha (hQ a j q)) j, h.2⟩
theorem FrS.fr {Q : Nat → Prop} {P : Nat → Nat → Prop} {M M' : Mm} (h : FrS P M M') (hQ : ∀ a j, P a j → Q a) : Fr Q M M' := ⟨fun a ha j => h.1 a j (fun q => ha (hQ a j q)), h.2⟩
def DAok (M : Mm) (D I P : Nat) : Prop := (m_sh M D).1 = 1 ∧ m_r M D 0 = P ∧ m_r M D 1 = I ∧ m_r M D 2 = D + 1 ∧ m_r M D 9 = D + 2 ∧ m_r M D 11 = D + 3 ∧ m_r M D 12 = D + 4 ∧
  m_sh M (D + 1) = (20, 8) ∧ m_sh M (D + 2) = (30, 8) ∧ m_sh M (D + 3) = (20, 8) ∧ PBok M (D + 4) ∧ ∀ k, k < 8 → m_r M (D + 2) k = D + 11 + 2 * k ∧ CAok M (D + 11 + 2 * k)
theorem DAok.of {M M' : Mm} {D I P : Nat} (h : DAok M D I P) (hr : ∀ a j, m_r M' a j = m_r M a j) (hs : ∀ a, m_sh M' a = m_sh M a) : DAok M' D I P := by
  obtain ⟨h0, h1, h2, h3, h4, h5, h6, h7, h8, h9, h10, h11⟩ := h
  refine ⟨by rw [hs]; exact h0, by rw [hr]; exact h1, by rw [hr]; exact h2, by rw [hr]; exact h3, by rw [hr]; exact h4, by rw [hr]; exact h5, by rw [hr]; exact h6, by rw [hs]; exact h7, by rw [hs]; exact h8, by rw [hs]; exact h9, h10.of hr hs, fun k hk => ⟨by rw [hr]; exact (h11 k hk).1, (h11 k hk).2.of hr hs⟩⟩
/-- the settled part of a DAY -/
def DIN (M : Mm) (c : Cf) (D I A P : Nat) : Prop := DAok M D I P ∧ IFinv M I A P (c_n c) (c_f c) (c_by c) (c_nu c) (c_mu c) (c_wo c) ∧ (P + 2 < A ∧ A + 6 < I ∧ I + 3 < D) ∧ m_i M D 3 = oN (c_pl c) ∧ (∀ p, c_pl c = some p → m_i M D 4 = c_pb c) ∧ m_i M D 6 = oN (c_tu c) ∧ ∀ p, c_tu c = some p → m_i M D 7 = c_tc c ∧ m_i M D 8 = nI (c_tw c)
theorem DIN.fr {M M' : Mm} {c : Cf} {D I A P : Nat} {Q : Nat → Nat → Prop} (h : DIN M c D I A P) (hF : FrS Q M M') (hI : IFinv M' I A P (c_n c) (c_f c) (c_by c) (c_nu c) (c_mu c) (c_wo c)) (h3 : ¬ Q D 3) (h4 : ¬ Q D 4) (h6 : ¬ Q D 6) (h7 : ¬ Q D 7) (h8 : ¬ Q D 8) : DIN M' c D I A P := by
  obtain ⟨a1, a2, a3, a4, a5, a6, a7⟩ := h
  exact ⟨a1.of hF.2.1 hF.2.2.2.1, hI, a3, by rw [hF.1 _ _ h3]; exact a4, fun p hp => by rw [hF.1 _ _ h4]; exact a5 p hp, by rw [hF.1 _ _ h6]; exact a6, fun p hp => by rw [hF.1 _ _ h7, hF.1 _ _ h8]; exact a7 p hp⟩
def WYrep (M : Mm) (D : Nat) (c : Cf) (k : Nat) : Prop := ∀ p, p < c_n c → m_i M (D + 1) p = nI (wyAt c k p)
def BLrep (M : Mm) (D : Nat) (bal : Nat → Int32) : Prop := ∀ p, p < 8 → m_i M (D + 10) p = bal p
/-- what is known of a CALL before it is gone through -/
def CAin (M : Mm) (C : Nat) (L : List Nat) (mm : Nat) : Prop := CAok M C ∧ m_i M C 1 = nI L.length ∧ (∀ j, j < L.length → m_i M (C + 1) j = nI (L.getD j 0)) ∧ m_i M C 2 = thBits L ∧ m_i M C 3 = nI mm
theorem CAin.fr {M M' : Mm} {C : Nat} {L : List Nat} {mm : Nat} {Q : Nat → Nat → Prop} (h : CAin M C L mm) (hF : FrS Q M M') (h1 : ¬ Q C 1) (h2 : ¬ Q C 2) (h3 : ¬ Q C 3) (h4 : ∀ j, ¬ Q (C + 1) j) : CAin M' C L mm := by
  obtain ⟨a1, a2, a3, a4, a5⟩ := h
  exact ⟨a1.of hF.2.1 hF.2.2.2.1, by rw [hF.1 _ _ h1]; exact a2, fun j hj => by rw [hF.1 _ _ (h4 j)]; exact a3 j hj, by rw [hF.1 _ _ h2]; exact a4, by rw [hF.1 _ _ h3]; exact a5⟩
/-- a row of those that stand there -/
def LOK (c : Cf) (L : List Nat) : Prop := 1 ≤ L.length ∧ L.length ≤ 8 ∧ (∀ j, j < L.length → L.getD j 0 < c_n c) ∧ L.Nodup
theorem phi_if {Φ : OutV → Mm → Prop} {M : Mm} {b : Bool} {v : Int32} (h : Φ (.inl (some (.int (if b = true then 1 else 0)))) M) (e : (if b = true then (1 : Int32) else 0) = v) : Φ (.inl (some (.int v))) M := e ▸ h
def goX (L : List Nat) (o : Option Nat) : Int32 := match o with
  | none => -1
  | some g => nI (L.getD g 0)
section SDA
variable {l : Launch} {G : Gx} {d : Nat} {bc bs : Nat} {Φ : OutV → Mm → Prop}
theorem dueX_lt {bal : Nat → Int32} {due : Int32} {L : List Nat} : ∀ i g, dueX bal due L i = some g → g < i
  | 0, _, h => by cases h
  | i + 1, g, h => by
    unfold dueX at h
    by_cases h1 : bal (L.getD i 0) < due
    · rw [if_pos h1] at h
      have := dueX_lt i g h
      omega
    · rw [if_neg h1] at h
      cases hq : dueX bal due L i with
      | none => rw [hq] at h; cases h; omega
      | some b =>
        rw [hq] at h
        have := dueX_lt i b hq
        by_cases h2 : bal (L.getD i 0) ≤ bal (L.getD b 0)
        · simp only [if_pos h2] at h; cases h; omega
        · simp only [if_neg h2] at h; cases h; omega
theorem ct_dueOne (M : Mm) (C A : Nat) (c : Cf) (hc : cfOK c) (L : List Nat) (mm : Nat) (bal : Nat → Int32) (due : Int32) (hC : CAin M C L mm) (hL : LOK c L) (hA : m_sh M A = (20, 8)) (hB : ∀ p, p < 8 → m_i M A p = bal p)
    (h : Φ (.inl (some (.int (goX L (dueX bal due L L.length))))) M) : Ct l G d mCa_dueOne bc bs [.ref C, .ref A, .int due] M Φ := by
  obtain ⟨⟨c0, c1, c2⟩, a1, a2, -, -⟩ := hC
  have n8 := hc.1
  refine Ct.of rfl (Nat.le_of_ble_eq_true rfl) ?_
  refine bCa_dueOne_0 M C A due ?_
  have loop : ∀ k i (u : Value), i + k = L.length → Ev l G d mCa_dueOne 5 [.ref C, .ref A, .int due, .int (goX L (dueX bal due L i)), .int (nI i), u] [] M bc bs Φ := by
    intro k
    induction k with
    | zero =>
      intro i u hi
      have : i = L.length := by omega
      subst this
      exact bCa_dueOne_5 M C A _ _ _ u ⟨c0, fun _ => h, fun q => absurd (by rw [a1]; exact nI_le (Nat.le_refl _) (by have := hL.2.1; omega)) q⟩
    | succ k ih =>
      intro i u hi
      have hl8 := hL.2.1
      have hp := hL.2.2.1 i (by omega)
      have hcl : (nI i).toNatClampNeg = i := nI_clamp (by omega)
      have e1 : m_i M (m_r M C 0) (nI i).toNatClampNeg = nI (L.getD i 0) := by rw [c1, hcl]; exact a2 i (by omega)
      have e2 : m_i M A (nI (L.getD i 0)).toNatClampNeg = bal (L.getD i 0) := by rw [nI_clamp (by omega)]; exact hB _ (by omega)
      have hnext : ∀ (v : Int32) (x : Int32), v = goX L (dueX bal due L (i + 1)) → Ev l G d mCa_dueOne 52 [.ref C, .ref A, .int due, .int v, .int (nI i), .int x] [] M bc bs Φ := fun v x e => by
        refine bCa_dueOne_52 M C A _ _ _ _ ?_
        rw [nI_1, e]
        exact ih (i + 1) _ (by omega)
      have htake : dueX bal due L (i + 1) = some i → ∀ v x : Int32, Ev l G d mCa_dueOne 44 [.ref C, .ref A, .int due, .int v, .int (nI i), .int x] [] M bc bs Φ := fun e v x => by
        refine bCa_dueOne_44 M C A _ _ _ _ ⟨c0, by rw [c1, c2], by rw [c1, c2]; exact vp_in_nI (by omega) (by omega), ?_⟩
        rw [e1]
        exact hnext _ _ (by rw [e]; rfl)
      refine bCa_dueOne_5 M C A _ _ _ u ⟨c0, fun q => absurd q (by rw [a1]; exact nI_not_le (by omega) (by omega)), fun _ => ⟨by rw [c1, c2], by rw [c1, c2]; exact vp_in_nI (by omega) (by omega), by rw [hA], by rw [e1, hA]; exact vp_in_nI (by omega) (by omega), ?_⟩⟩
      rw [e1, e2]
      refine ⟨fun q => hnext _ _ ?_, fun q => ⟨fun q2 => htake ?_ _ _, fun q2 => ⟨?_, fun q3 => hnext _ _ ?_, fun q3 => htake ?_ _ _⟩⟩⟩
      · rw [show dueX bal due L (i + 1) = dueX bal due L i from if_pos q]
      · cases hq : dueX bal due L i with
        | none =>
          show (if _ then _ else _) = _
          rw [if_neg q, hq]
        | some b =>
          have := dueX_lt i b hq
          have := hL.2.2.1 b (by omega)
          rw [hq] at q2
          exact absurd q2 (nI_neg (by omega))
      · cases hq : dueX bal due L i with
        | none => rw [hq] at q2; exact absurd rfl q2
        | some b =>
          have := dueX_lt i b hq
          have := hL.2.2.1 b (by omega)
          rw [hA]
          exact vp_in_nI (by omega) (by omega)
      · cases hq : dueX bal due L i with
        | none => rw [hq] at q2; exact absurd rfl q2
        | some b =>
          have := dueX_lt i b hq
          have := hL.2.2.1 b (by omega)
          rw [hq] at q3
          have q4 : bal (L.getD i 0) ≤ bal (L.getD b 0) := by
            have e : m_i M A (goX L (some b)).toNatClampNeg = bal (L.getD b 0) := by
              show m_i M A (nI (L.getD b 0)).toNatClampNeg = _
              rw [nI_clamp (by omega)]; exact hB _ (by omega)
            rw [← e]; exact q3
          show _ = goX L (if _ then _ else _)
          rw [if_neg q, hq]
          show _ = goX L (if _ then _ else _)
          rw [if_pos q4]
      · cases hq : dueX bal due L i with
        | none => rw [hq] at q2; exact absurd rfl q2
        | some b =>
          have := dueX_lt i b hq
          have := hL.2.2.1 b (by omega)
          rw [hq] at q3
          have q4 : ¬ bal (L.getD i 0) ≤ bal (L.getD b 0) := by
            have e : m_i M A (goX L (some b)).toNatClampNeg = bal (L.getD b 0) := by
              show m_i M A (nI (L.getD b 0)).toNatClampNeg = _
              rw [nI_clamp (by omega)]; exact hB _ (by omega)
            rw [← e]; exact q3
          show (if _ then _ else _) = _
          rw [if_neg q, hq]
          show (if _ then _ else _) = _
          rw [if_neg q4]
  exact loop L.length 0 _ (by omega)
theorem ct_offersByPlan (M : Mm) (D I P : Nat) (c : Cf) (u : Nat) (hD : DAok M D I P) (hb : m_i M D 4 = c_pb c) (hu : m_i M D 5 = nI u) (hu2 : u < 2 ^ 30)
    (h : Φ (.inl (some (.int (if planOff c u = true then 1 else 0)))) (m_si M D 5 (nI (u + 1)))) : Ct l G d mDa_offersByPlan bc bs [.ref D] M Φ := by
  refine Ct.of rfl (Nat.le_of_ble_eq_true rfl) ?_
  have h28 : planOff c u = false → Ev l G d mDa_offersByPlan 28 [.ref D, .null] [] M bc bs Φ := fun e => by
    refine bDa_offersByPlan_28 M D _ ⟨hD.1, ?_⟩
    rw [hu, nI_1]
    exact phi_if h (by rw [e]; rfl)
  have h10 : ((10 : Int32) ≤ nI u) ↔ 10 ≤ u := nI_leI (a := 10) (by omega) (by omega)
  refine bDa_offersByPlan_0 M D ⟨hD.1, ?_⟩
  rw [hu, hb, h10, nI_1]
  refine ⟨fun q => h28 (decide_eq_false (by omega)), fun q => ⟨fun q2 => h28 (decide_eq_false (fun r => q2 r.2)), fun q2 => phi_if h ?_⟩⟩
  rw [show planOff c u = true from decide_eq_true ⟨by omega, q2⟩]
  rfl
theorem wy_le {c : Cf} (hc : cfOK c) (k : Nat) {p : Nat} (hp : p < c_n c) : wyAt c k p ≤ 4 := by
  obtain ⟨-, -, -, -, -, -, -, -, h1, h2, -⟩ := hc
  unfold wyAt
  by_cases q : c_tu c = some p ∧ c_tc c ≤ nI k
  · rw [if_pos q]; exact (h1 p q.1).2.2
  · rw [if_neg q]; exact h2 p hp
theorem ct_offersByWay (M : Mm) (D I P : Nat) (c : Cf) (hc : cfOK c) (k : Nat) (hD : DAok M D I P) (hE : PEok M P) (hR : PErep M P (c_n c) (c_f c) (c_by c)) (hW : WYrep M D c k) (bal : Nat → Int32) (hB : BLrep M D bal) (p q : Nat) (hp : p < c_n c) (hq : q < c_n c) (hd : 0 < d)
    (h : Φ (.inl (some (.int (if wayOff c k bal p q = true then 1 else 0)))) M) : Ct l G d mDa_offersByWay bc bs [.ref D, .int (nI p), .int (nI q)] M Φ := by
  obtain ⟨d0, d1, d2, d3, -, -, d6, s1, -, -, pb, -⟩ := id hD
  obtain ⟨r0, r1, r2, r3⟩ := hR
  have n8 := hc.1
  have hw := hW p hp
  have hwl := wy_le hc k hp
  have hcl : (nI p).toNatClampNeg = p := nI_clamp (by omega)
  have hin : vp_in (nI p) 8 := vp_in_nI (by omega) (by omega)
  have b5 : m_r M (m_r M D 12) 5 = D + 10 := by rw [d6, pb.2.2.2.2.2.2.1]
  have sb : m_sh M (D + 10) = (20, 8) := pb.2.2.2.2.2.2.2.2.2.2.2.2
  refine Ct.of rfl (Nat.le_of_ble_eq_true rfl) ?_
  refine bDa_offersByWay_0 M D _ _ ⟨d0, by rw [d3, s1], by rw [d3, s1]; exact hin, ?_⟩
  rw [d3, hcl, hw, d1, b5]
  refine ⟨fun e => ⟨hE.1, CallVC.cps0 hd ?_⟩, fun e => ⟨by rw [d6]; exact pb.1, by rw [sb], by rw [sb]; exact hin, hE.1, CallVC.cps0 hd ?_⟩, fun e => ⟨hE.1, CallVC.cps0 hd ?_⟩, fun e => ?_, fun e1 e2 e3 e4 => ?_⟩
  · have w1 : wyAt c k p = 1 := (nI_eq (by omega) (by omega)).mp e
    refine ct_fact M P p 7 hE (by omega) (by omega) ?_
    rw [r2 p 7 hp (by omega)]
    exact bDa_offersByWay_46 M D _ _ _ ⟨fun x => phi_if h (by simp [wayOff, w1, x]), fun x => phi_if h (by simp [wayOff, w1, x])⟩
  · have w1 : wyAt c k p = 2 := (nI_eq (by omega) (by omega)).mp e
    refine ct_fact M P p 6 hE (by omega) (by omega) ?_
    rw [r2 p 6 hp (by omega), hB p (by omega)]
    refine bDa_offersByWay_79 M D _ _ _ _ ⟨fun x => phi_if h ?_, fun x => phi_if h ?_⟩
    · have : ¬ bal p < c_f c p 6 := Int32.not_lt.mpr x
      simp [wayOff, w1, this]
    · have : bal p < c_f c p 6 := Int32.not_le.mp x
      simp [wayOff, w1, this]
  · have w1 : wyAt c k p = 3 := (nI_eq (by omega) (by omega)).mp e
    refine ct_fact M P q 1 hE (by omega) (by omega) ?_
    rw [r2 q 1 hq (by omega)]
    refine bDa_offersByWay_97 M D _ _ _ ⟨d0, by rw [d1]; exact hE.1, CallVC.cps0 hd ?_⟩
    rw [d1]
    refine ct_fact M P p 1 hE (by omega) (by omega) ?_
    rw [r2 p 1 hp (by omega)]
    refine bDa_offersByWay_106 M D _ _ _ _ ⟨fun x => phi_if h ?_, fun x => phi_if h ?_⟩
    · have : ¬ c_f c p 1 < c_f c q 1 := Int32.not_lt.mpr x
      simp [wayOff, w1, this]
    · have : c_f c p 1 < c_f c q 1 := Int32.not_le.mp x
      simp [wayOff, w1, this]
  · have w1 : wyAt c k p = 4 := (nI_eq (by omega) (by omega)).mp e
    exact phi_if h (by simp [wayOff, w1])
  · have w1 : ∀ x, nI (wyAt c k p) ≠ nI x → wyAt c k p ≠ x := fun x hx e => hx (by rw [e])
    have a1 := w1 1 e1
    have a2 := w1 2 e2
    have a3 := w1 3 e3
    have a4 := w1 4 e4
    exact phi_if h (by simp [wayOff, a1, a2, a3, a4])
end SDA
