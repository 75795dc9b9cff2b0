/-! ===== PassBook.debt: nothing is ever set off ===== -/
def ACY (ps : List PR) (rk : Nat → Nat) : Prop := ∀ x ∈ ps, rk x.2.1 < rk x.1 ∧ ∃ w, w ≤ 99 ∧ x.2.2.1 = nI w
def givL (ps : List PR) (g t : Nat) : Int32 := givS (p_g ps) (p_t ps) (p_w ps) g t ps.length
theorem giv_nat {ps : List PR} {rk : Nat → Nat} (h : ACY ps rk) (g t : Nat) : ∀ i, i ≤ ps.length → ∃ m, m ≤ 99 * i ∧ givS (p_g ps) (p_t ps) (p_w ps) g t i = nI m ∧ (m ≠ 0 → rk t < rk g)
  | 0, _ => ⟨0, Nat.le_refl _, rfl, fun q => absurd rfl q⟩
  | i + 1, hi => by
    obtain ⟨m, m1, m2, m3⟩ := giv_nat h g t i (by omega)
    have hm : ps.getD i pr0 ∈ ps := by
      rw [List.getD_eq_getElem?_getD, List.getElem?_eq_getElem (show i < ps.length by omega)]
      exact List.getElem_mem _
    obtain ⟨a1, w, w1, w2⟩ := h _ hm
    unfold givS
    by_cases q : p_g ps i = g ∧ p_t ps i = t
    · rw [if_pos q, m2]
      refine ⟨m + w, by omega, ?_, fun _ => ?_⟩
      · rw [← nI_add]
        exact congrArg _ w2
      · rw [← q.1, ← q.2]
        exact a1
    · rw [if_neg q]
      exact ⟨m, by omega, m2, m3⟩
theorem m_si_self (M : Mm) (a k : Nat) {v : Int32} (h : v = m_i M a k) : m_si M a k v = M := by
  subst h
  rw [m_si_row]
  refine m_row_self M a (fun j => ?_)
  by_cases q : j = k
  · rw [if_pos q, q]
  · rw [if_neg q]
theorem ite_nI {a b : Nat} (ha : a < 2 ^ 31) (hb : b < 2 ^ 31) : (if nI a < nI b then nI a else nI b) = nI (if a < b then a else b) := by
  by_cases h : a < b
  · rw [if_pos h, if_pos ((nI_ltI ha hb).mpr h)]
  · rw [if_neg h, if_neg (fun q => h ((nI_ltI ha hb).mp q))]
section SDB
variable {l : Launch} {G : Gx} {d : Nat} {bc bs : Nat} {Φ : OutV → Mm → Prop}
theorem ct_setOff0 (M : Mm) (B : Nat) (hP : PBok M B) (i1 i2 i3 v1 v2 v3 : Nat) (h1 : i1 < 64) (h2 : i2 < 64) (h3 : i3 < 64) (e1 : m_i M (B + 5) i1 = nI v1) (e2 : m_i M (B + 5) i2 = nI v2) (e3 : m_i M (B + 5) i3 = nI v3) (b1 : v1 < 2 ^ 31) (b2 : v2 < 2 ^ 31) (b3 : v3 < 2 ^ 31) (hz : v1 = 0 ∨ v2 = 0 ∨ v3 = 0) (hd : 1 ≤ d)
    (h : Φ (.inl (some (.int 0))) M) : Ct l G d mPb_setOff bc bs [.ref B, .int (nI i1), .int (nI i2), .int (nI i3)] M Φ := by
  obtain ⟨p0, p1, p2, p3, p4, p5, p6, s1, s2, s3, s4, s5, s6⟩ := hP
  have hz0 : (if (if nI v3 < nI v2 then nI v3 else nI v2) < nI v1 then (if nI v3 < nI v2 then nI v3 else nI v2) else nI v1) = (0 : Int32) := by
    rw [ite_nI b3 b2, ite_nI (by split <;> omega) b1]
    have : (if (if v3 < v2 then v3 else v2) < v1 then (if v3 < v2 then v3 else v2) else v1) = 0 := by
      repeat' split
      all_goals omega
    rw [this]
    rfl
  refine Ct.of rfl (Nat.le_of_ble_eq_true rfl) ?_
  refine bPb_setOff_0 M B _ _ _ ⟨p0, by rw [p5, s5], by rw [p5, s5]; exact vp_in_nI h1 (by decide), by rw [p5, s5]; exact vp_in_nI h2 (by decide), by rw [p5, s5]; exact vp_in_nI h3 (by decide), hd, ?_⟩
  rw [p5, nI_clamp (by omega), nI_clamp (by omega), nI_clamp (by omega), e1, e2, e3, hz0, Int32.sub_zero, Int32.sub_zero, m_si_self M _ _ e1.symm, m_si_self M _ _ rfl]
  refine bPb_setOff_48 M B _ _ _ _ ⟨p0, by rw [p5, s5], by rw [p5, s5]; exact vp_in_nI h3 (by decide), fun _ => ?_, fun q => absurd (by decide) q⟩
  rw [p5, Int32.sub_zero, m_si_self M _ _ rfl]
  exact h
/-- debts among whom no round of three can be found -/
def DBT (M : Mm) (B : Nat) (v : Nat → Nat → Nat) (rk : Nat → Nat) : Prop := ∀ a b, a < 8 → b < 8 → m_i M (B + 5) (a * 8 + b) = nI (v a b) ∧ v a b < 2 ^ 31 ∧ (v a b ≠ 0 → rk a < rk b)
theorem ct_setOffRound0 (M : Mm) (B : Nat) (hP : PBok M B) (v : Nat → Nat → Nat) (rk : Nat → Nat) (hD : DBT M B v rk) (hd : 1 < d) (h : Φ (.inl (some (.int 0))) M) : Ct l G d mPb_setOffRound bc bs [.ref B] M Φ := by
  refine Ct.of rfl (Nat.le_of_ble_eq_true rfl) ?_
  refine bPb_setOffRound_0 M B ?_
  have hix : ∀ a b : Nat, nI a * 8 + nI b = nI (a * 8 + b) := fun a b => by rw [show (8 : Int32) = nI 8 from rfl, pk_mul, nI_add]
  have loop3 : ∀ a b e c, a < 8 → b < 8 → c + e = 8 → (∀ u3 : Value, Ev l G d mPb_setOffRound 12 [.ref B, .int (nI a), .int (nI (b + 1)), u3] [] M bc bs Φ) → Ev l G d mPb_setOffRound 22 [.ref B, .int (nI a), .int (nI b), .int (nI c)] [] M bc bs Φ := by
    intro a b e
    induction e with
    | zero =>
      intro c ha hb hc hn
      refine bPb_setOffRound_22 M B _ _ _ ⟨fun _ => by rw [nI_1]; exact hn _, fun q => absurd (nI_le (a := 8) (by omega) (by omega)) q⟩
    | succ e ih =>
      intro c ha hb hc hn
      refine bPb_setOffRound_22 M B _ _ _ ⟨fun q => absurd q (nI_not_le (b := 8) (by omega) (by omega)), fun _ => ⟨hP.1, CallVC.cps0 (by omega) ?_⟩⟩
      rw [hix, hix, hix]
      obtain ⟨x1, y1, z1⟩ := hD a b ha hb
      obtain ⟨x2, y2, z2⟩ := hD b c hb (by omega)
      obtain ⟨x3, y3, z3⟩ := hD c a (by omega) ha
      refine ct_setOff0 M B hP _ _ _ _ _ _ (by omega) (by omega) (by omega) x1 x2 x3 y1 y2 y3 ?_ (by omega) ?_
      · by_cases q1 : v a b = 0
        · exact Or.inl q1
        · by_cases q2 : v b c = 0
          · exact Or.inr (Or.inl q2)
          · refine Or.inr (Or.inr ?_)
            by_cases q3 : v c a = 0
            · exact q3
            · have := z1 q1
              have := z2 q2
              have := z3 q3
              omega
      · refine bPb_setOffRound_50 M B _ _ _ _ ⟨fun _ => ?_, fun q => absurd rfl q⟩
        rw [nI_1]
        exact ih (c + 1) ha hb (by omega) hn
  have loop2 : ∀ a e b (u3 : Value), a < 8 → b + e = 8 → (∀ u2 u3 : Value, Ev l G d mPb_setOffRound 2 [.ref B, .int (nI (a + 1)), u2, u3] [] M bc bs Φ) → Ev l G d mPb_setOffRound 12 [.ref B, .int (nI a), .int (nI b), u3] [] M bc bs Φ := by
    intro a e
    induction e with
    | zero =>
      intro b u3 ha hb hn
      exact bPb_setOffRound_12 M B _ _ u3 ⟨fun _ => by rw [nI_1]; exact hn _ _, fun q => absurd (nI_le (a := 8) (by omega) (by omega)) q⟩
    | succ e ih =>
      intro b u3 ha hb hn
      refine bPb_setOffRound_12 M B _ _ u3 ⟨fun q => absurd q (nI_not_le (b := 8) (by omega) (by omega)), fun _ => ?_⟩
      rw [nI_1]
      exact loop3 a b (8 - (a + 1)) (a + 1) ha (by omega) (by omega) (fun u => ih (b + 1) u ha (by omega) hn)
  have loop1 : ∀ e a (u2 u3 : Value), a + e = 8 → Ev l G d mPb_setOffRound 2 [.ref B, .int (nI a), u2, u3] [] M bc bs Φ := by
    intro e
    induction e with
    | zero =>
      intro a u2 u3 ha
      exact bPb_setOffRound_2 M B _ u2 u3 ⟨fun _ => h, fun q => absurd (nI_le (a := 8) (by omega) (by omega)) q⟩
    | succ e ih =>
      intro a u2 u3 ha
      refine bPb_setOffRound_2 M B _ u2 u3 ⟨fun q => absurd q (nI_not_le (b := 8) (by omega) (by omega)), fun _ => ?_⟩
      rw [nI_1]
      exact loop2 a (8 - (a + 1)) (a + 1) u3 (by omega) (by omega) (fun u v => ih (a + 1) u v (by omega))
  exact loop1 8 0 _ _ (by omega)
theorem ct_debt (M : Mm) (B : Nat) (hP : PBok M B) (ps : List PR) (hB : PBL M B ps) (rk : Nat → Nat) (hA : ACY ps rk) (hn : ps.length ≤ 28) (hg : ∀ i, i < ps.length → p_g ps i < 8 ∧ p_t ps i < 8) (one other : Nat) (h1 : one < 8) (h2 : other < 8) (hd : 2 < d)
    (h : ∀ M', FrS (fun a _ => a = B + 5) M M' → Φ (.inl (some (.int (givL ps other one)))) M') : Ct l G d mPb_debt bc bs [.ref B, .int (nI one), .int (nI other)] M Φ := by
  obtain ⟨p0, p1, p2, p3, p4, p5, p6, s1, s2, s3, s4, s5, s6⟩ := id hP
  have hix : ∀ a b : Nat, nI a * 8 + nI b = nI (a * 8 + b) := fun a b => by rw [show (8 : Int32) = nI 8 from rfl, pk_mul, nI_add]
  -- a debt is what was given
  have hdv : ∀ a b, (if (0 : Int32) < (givL ps b a - givL ps a b) then (givL ps b a - givL ps a b) else 0) = givL ps b a := fun a b => by
    obtain ⟨m, m1, m2, m3⟩ := giv_nat hA b a ps.length (Nat.le_refl _)
    obtain ⟨k, k1, k2, k3⟩ := giv_nat hA a b ps.length (Nat.le_refl _)
    have em : givL ps b a = nI m := m2
    have ek : givL ps a b = nI k := k2
    rw [em, ek]
    by_cases q : m = 0
    · subst q
      by_cases q2 : k = 0
      · subst q2; decide
      · have hlt := nI_sub_neg (a := 0) (b := k) (by omega) (by omega)
        rw [if_neg (fun z => by
          rw [Int32.lt_iff_toInt_lt] at z hlt
          omega)]
        rfl
    · have q2 : k = 0 := by
        by_cases q2 : k = 0
        · exact q2
        · have := m3 q
          have := k3 q2
          omega
      subst q2
      rw [nI_sub (Nat.zero_le _), Nat.sub_zero, if_pos (show (0 : Int32) < nI m from nI_lt (a := 0) (b := m) (by omega) (by omega))]
  let row : Nat → Nat → Int32 := fun t j => if j < t then givL ps (j % 8) (j / 8) else m_i M (B + 5) j
  have hrow : ∀ t, PBL (m_row M (B + 5) (row t)) B ps := fun t => hB.fr (Q := fun a _ => a = B + 5) (FrS.row (fun j => rfl) _) (by omega) (fun j => by omega) (fun j => by omega) (fun j => by omega) (fun j => by omega)
  have hstep : ∀ a b, a < 8 → b < 8 → m_si (m_row M (B + 5) (row (a * 8 + b))) (B + 5) (a * 8 + b) (givL ps b a) = m_row M (B + 5) (row (a * 8 + (b + 1))) := fun a b ha hb => by
    rw [m_si_row, m_row_row]
    apply m_row_congr
    intro j
    rw [m_i_rowS]
    show (if j = a * 8 + b then _ else if j < a * 8 + b then _ else _) = if j < a * 8 + (b + 1) then _ else _
    by_cases q : j = a * 8 + b
    · rw [if_pos q, if_pos (by omega), q, show (a * 8 + b) % 8 = b by omega, show (a * 8 + b) / 8 = a by omega]
    · rw [if_neg q]
      by_cases q2 : j < a * 8 + b
      · rw [if_pos q2, if_pos (by omega)]
      · rw [if_neg q2, if_neg (by omega)]
  refine Ct.of rfl (Nat.le_of_ble_eq_true rfl) ?_
  refine bPb_debt_0 M B _ _ ?_
  have hlast : ∀ u4 : Value, Ev l G d mPb_debt 63 [.ref B, .int (nI one), .int (nI other), .int 0, u4] [] (m_row M (B + 5) (row 64)) bc bs Φ := fun u4 => by
    have hPr : PBok (m_row M (B + 5) (row 64)) B := hP.of (fun _ _ => rfl) (fun _ => rfl)
    refine bPb_debt_63 _ B _ _ _ u4 ⟨p0, by rw [m_r_row, p5, m_sh_row, s5], ?_⟩
    rw [m_r_row, p5, m_sh_row, s5]
    refine ⟨fun q => absurd q (nI_not_le (a := 0) (b := 64) (by omega) (by omega)), fun _ => CallVC.cps0 (by omega) ?_⟩
    refine ct_setOffRound0 _ B hPr (fun a b => ((giv_nat hA b a ps.length (Nat.le_refl _)).choose)) rk (fun a b ha hb => ?_) (by omega) ?_
    · have hs := (giv_nat hA b a ps.length (Nat.le_refl _)).choose_spec
      refine ⟨?_, Nat.lt_of_le_of_lt hs.1 (by omega), hs.2.2⟩
      rw [m_i_rowS]
      show (if a * 8 + b < 64 then _ else _) = _
      rw [if_pos (by omega), show (a * 8 + b) % 8 = b by omega, show (a * 8 + b) / 8 = a by omega]
      exact hs.2.1
    · refine bPb_debt_76 _ B _ _ _ u4 _ ⟨fun q => absurd rfl q, fun _ => ?_⟩
      refine bPb_debt_88 _ B _ _ _ u4 ⟨p0, by rw [m_r_row, p5, m_sh_row, s5], by rw [m_r_row, p5, m_sh_row, s5, hix]; exact vp_in_nI (by omega) (by omega), ?_⟩
      rw [m_r_row, p5, hix, nI_clamp (by omega), m_i_rowS]
      have e : row 64 (one * 8 + other) = givL ps other one := by
        show (if one * 8 + other < 64 then _ else _) = _
        rw [if_pos (by omega), show (one * 8 + other) % 8 = other by omega, show (one * 8 + other) / 8 = one by omega]
      rw [e]
      exact h _ (FrS.row (fun j => rfl) _)
  have loop2 : ∀ a e b, a < 8 → b + e = 8 → (∀ u4 : Value, Ev l G d mPb_debt 2 [.ref B, .int (nI one), .int (nI other), .int (nI (a + 1)), u4] [] (m_row M (B + 5) (row (a * 8 + 8))) bc bs Φ) → Ev l G d mPb_debt 11 [.ref B, .int (nI one), .int (nI other), .int (nI a), .int (nI b)] [] (m_row M (B + 5) (row (a * 8 + b))) bc bs Φ := by
    intro a e
    induction e with
    | zero =>
      intro b ha hb hn
      have : b = 8 := by omega
      subst this
      exact bPb_debt_11 _ B _ _ _ _ ⟨fun _ => by rw [nI_1]; exact hn _, fun q => absurd (nI_le (a := 8) (by omega) (by omega)) q⟩
    | succ e ih =>
      intro b ha hb hn'
      have hPr : PBok (m_row M (B + 5) (row (a * 8 + b))) B := hP.of (fun _ _ => rfl) (fun _ => rfl)
      refine bPb_debt_11 _ B _ _ _ _ ⟨fun q => absurd q (nI_not_le (b := 8) (by omega) (by omega)), fun _ => ⟨p0, CallVC.cps0 (by omega) ?_⟩⟩
      refine ct_given _ B ps.length _ _ _ _ hPr (hrow _) hn hg b a (by omega) ha ?_
      refine bPb_debt_37 _ B _ _ _ _ _ _ _ _ ⟨p0, CallVC.cps0 (by omega) ?_⟩
      refine ct_given _ B ps.length _ _ _ _ hPr (hrow _) hn hg a b ha (by omega) ?_
      rw [m_r_row, p5, hix]
      refine bPb_debt_44 _ B _ _ _ _ _ _ _ _ _ ⟨by omega, by rw [m_sh_row, s5], by rw [m_sh_row, s5]; exact vp_in_nI (by omega) (by omega), ?_⟩
      have e1 := hdv a b
      unfold givL at e1
      rw [e1, nI_clamp (by omega), nI_1]
      have e2 := hstep a b ha (by omega)
      unfold givL at e2
      rw [e2]
      exact ih (b + 1) ha (by omega) hn'
  have loop1 : ∀ e a (u4 : Value), a + e = 8 → Ev l G d mPb_debt 2 [.ref B, .int (nI one), .int (nI other), .int (nI a), u4] [] (m_row M (B + 5) (row (a * 8))) bc bs Φ := by
    intro e
    induction e with
    | zero =>
      intro a u4 ha
      have : a = 8 := by omega
      subst this
      exact bPb_debt_2 _ B _ _ _ u4 ⟨fun _ => hlast u4, fun q => absurd (nI_le (a := 8) (by omega) (by omega)) q⟩
    | succ e ih =>
      intro a u4 ha
      refine bPb_debt_2 _ B _ _ _ u4 ⟨fun q => absurd q (nI_not_le (b := 8) (by omega) (by omega)), fun _ => ?_⟩
      refine loop2 a 8 0 (by omega) (by omega) (fun u => ?_)
      rw [show a * 8 + 8 = (a + 1) * 8 by omega]
      exact ih (a + 1) u (by omega)
  have h0 := loop1 8 0 .null (by omega)
  have e0 : m_row M (B + 5) (row (0 * 8)) = M := m_row_self M (B + 5) (fun j => by
    show (if j < 0 * 8 then _ else _) = _
    rw [if_neg (by omega)])
  rw [e0] at h0
  exact h0
end SDB
