/-! ===== PassBook ===== -/
def PBok (M : Mm) (B : Nat) : Prop := (m_sh M B).1 = 5 ∧ m_r M B 0 = B + 1 ∧ m_r M B 1 = B + 2 ∧ m_r M B 2 = B + 3 ∧ m_r M B 3 = B + 4 ∧ m_r M B 4 = B + 5 ∧ m_r M B 5 = B + 6 ∧
  m_sh M (B + 1) = (20, 28) ∧ m_sh M (B + 2) = (20, 28) ∧ m_sh M (B + 3) = (20, 28) ∧ m_sh M (B + 4) = (20, 28) ∧ m_sh M (B + 5) = (20, 64) ∧ m_sh M (B + 6) = (20, 8)
theorem PBok.of {M M' : Mm} {B : Nat} (h : PBok M B) (hr : ∀ a j, m_r M' a j = m_r M a j) (hs : ∀ a, m_sh M' a = m_sh M a) : PBok M' B := by
  unfold PBok
  rw [hs, hs, hs, hs, hs, hs, hs, hr, hr, hr, hr, hr, hr]
  exact h
/-- the passes in the book: givers, takers, worths, minutes -/
def PBrep (M : Mm) (B n : Nat) (pg pt : Nat → Nat) (pw pm : Nat → Int32) : Prop := m_i M B 6 = nI n ∧ ∀ i, i < n → m_i M (B + 1) i = nI (pg i) ∧ m_i M (B + 2) i = nI (pt i) ∧ m_i M (B + 3) i = pw i ∧ m_i M (B + 4) i = pm i
/-- a BALANCE out of the first n passes -/
def balS (pg pt : Nat → Nat) (pw pm : Nat → Int32) (minute lapse : Int32) (p : Nat) : Nat → Int32
  | 0 => 0
  | i + 1 => if lapse = -1 ∨ ¬ lapse < minute - pm i then (if p = pg i then balS pg pt pw pm minute lapse p i + pw i else if p = pt i then balS pg pt pw pm minute lapse p i - pw i else balS pg pt pw pm minute lapse p i) else balS pg pt pw pm minute lapse p i
/-- what one gave to another in the first n passes -/
def givS (pg pt : Nat → Nat) (pw : Nat → Int32) (g t : Nat) : Nat → Int32
  | 0 => 0
  | i + 1 => if pg i = g ∧ pt i = t then givS pg pt pw g t i + pw i else givS pg pt pw g t i
section SPB
variable {l : Launch} {G : Gx} {d : Nat} {bc bs : Nat} {Φ : OutV → Mm → Prop}
theorem ct_given (M : Mm) (B n : Nat) (pg pt : Nat → Nat) (pw pm : Nat → Int32) (hP : PBok M B) (hR : PBrep M B n pg pt pw pm) (hn : n ≤ 28) (hg : ∀ i, i < n → pg i < 8 ∧ pt i < 8) (g t : Nat) (hg8 : g < 8) (ht8 : t < 8)
    (h : Φ (.inl (some (.int (givS pg pt pw g t n)))) M) : Ct l G d mPb_given bc bs [.ref B, .int (nI g), .int (nI t)] M Φ := by
  obtain ⟨p0, p1, p2, p3, -, -, -, s1, s2, s3, -, -, -⟩ := hP
  refine Ct.of rfl (Nat.le_of_ble_eq_true rfl) ?_
  refine bPb_given_0 M B _ _ ?_
  have loop : ∀ k i, i + k = n → Ev l G d mPb_given 5 [.ref B, .int (nI g), .int (nI t), .int (givS pg pt pw g t i), .int (nI i)] [] M bc bs Φ := by
    intro k
    induction k with
    | zero =>
      intro i hi
      have : i = n := by omega
      subst this
      exact bPb_given_5 M B _ _ _ _ ⟨p0, fun _ => h, fun c => absurd (by rw [hR.1]; exact nI_le (Nat.le_refl _) (by omega)) c⟩
    | succ k ih =>
      intro i hi
      obtain ⟨r1, r2, r3, -⟩ := hR.2 i (by omega)
      have hin : vp_in (nI i) 28 := vp_in_nI (by omega) (by omega)
      have hcl : (nI i).toNatClampNeg = i := nI_clamp (by omega)
      have hnext : Ev l G d mPb_given 46 [.ref B, .int (nI g), .int (nI t), .int (givS pg pt pw g t (i + 1)), .int (nI i)] [] M bc bs Φ := by
        refine bPb_given_46 M B _ _ _ _ ?_
        rw [nI_1]
        exact ih (i + 1) (by omega)
      have hgi := hg i (by omega)
      refine bPb_given_5 M B _ _ _ _ ⟨p0, fun c => absurd c (by rw [hR.1]; exact nI_not_le (by omega) (by omega)), fun _ => ⟨by rw [p1, s1], by rw [p1, s1]; exact hin, fun c => ?_, fun c => ⟨by rw [p2, s2], by rw [p2, s2]; exact hin, fun c2 => ?_, fun c2 => ⟨by rw [p3, s3], by rw [p3, s3]; exact hin, ?_⟩⟩⟩⟩
      · rw [p1, hcl, r1] at c
        have e : givS pg pt pw g t (i + 1) = givS pg pt pw g t i := if_neg (fun q => c (by rw [q.1]))
        rw [e] at hnext
        exact hnext
      · rw [p2, hcl, r2] at c2
        have e : givS pg pt pw g t (i + 1) = givS pg pt pw g t i := if_neg (fun q => c2 (by rw [q.2]))
        rw [e] at hnext
        exact hnext
      · rw [p1, hcl, r1] at c
        rw [p2, hcl, r2] at c2
        have e : givS pg pt pw g t (i + 1) = givS pg pt pw g t i + pw i := if_pos ⟨(nI_eq (by omega) (by omega)).mp c, (nI_eq (by omega) (by omega)).mp c2⟩
        rw [e] at hnext
        rw [p3, hcl, r3]
        exact hnext
  exact loop n 0 (by omega)
theorem ct_balanceAt (M : Mm) (B n : Nat) (pg pt : Nat → Nat) (pw pm : Nat → Int32) (hP : PBok M B) (hR : PBrep M B n pg pt pw pm) (hn : n ≤ 28) (hg : ∀ i, i < n → pg i < 8 ∧ pt i < 8 ∧ pg i ≠ pt i) (minute lapse : Int32) (hd : 0 < d)
    (h : Φ (.inl none) (m_row M (B + 6) (fun j => if j < 8 then balS pg pt pw pm minute lapse j n else m_i M (B + 6) j))) : Ct l G d mPb_balanceAt bc bs [.ref B, .int minute, .int lapse] M Φ := by
  obtain ⟨p0, p1, p2, p3, p4, -, p6, s1, s2, s3, s4, -, s6⟩ := id hP
  refine Ct.of rfl (Nat.le_of_ble_eq_true rfl) ?_
  refine bPb_balanceAt_0 M B _ _ ⟨p0, CallVC.cps0 hd ?_⟩
  rw [p6]
  refine ct_fill M (B + 6) 0 8 s6 (by decide) ?_
  refine bPb_balanceAt_8 _ B _ _ _ ?_
  have loop : ∀ k i, i + k = n → Ev l G d mPb_balanceAt 10 [.ref B, .int minute, .int lapse, .int (nI i)] [] (m_row M (B + 6) (fun j => if j < 8 then balS pg pt pw pm minute lapse j i else m_i M (B + 6) j)) bc bs Φ := by
    intro k
    induction k with
    | zero =>
      intro i hi
      have : i = n := by omega
      subst this
      exact bPb_balanceAt_10 _ B _ _ _ ⟨p0, fun _ => h, fun c => absurd (by rw [m_i_row, if_neg (by omega), hR.1]; exact nI_le (Nat.le_refl _) (by omega)) c⟩
    | succ k ih =>
      intro i hi
      obtain ⟨r1, r2, r3, r4⟩ := hR.2 i (by omega)
      obtain ⟨g1, g2, g3⟩ := hg i (by omega)
      have hin : vp_in (nI i) 28 := vp_in_nI (by omega) (by omega)
      have hcl : (nI i).toNatClampNeg = i := nI_clamp (by omega)
      have hstep := ih (i + 1) (by omega)
      rw [← nI_1] at hstep
      have hskip : ¬ (lapse = -1 ∨ ¬ lapse < minute - pm i) → Ev l G d mPb_balanceAt 75 [.ref B, .int minute, .int lapse, .int (nI i)] [] (m_row M (B + 6) (fun j => if j < 8 then balS pg pt pw pm minute lapse j i else m_i M (B + 6) j)) bc bs Φ := fun c => by
        refine bPb_balanceAt_75 _ B _ _ _ ?_
        rw [m_row_congr M (B + 6) (g := fun j => if j < 8 then balS pg pt pw pm minute lapse j i else m_i M (B + 6) j) (fun j => by
          show (if j < 8 then (if _ then _ else _) else _) = _
          rw [if_neg c])] at hstep
        exact hstep
      have hlive : (lapse = -1 ∨ ¬ lapse < minute - pm i) → Ev l G d mPb_balanceAt 35 [.ref B, .int minute, .int lapse, .int (nI i)] [] (m_row M (B + 6) (fun j => if j < 8 then balS pg pt pw pm minute lapse j i else m_i M (B + 6) j)) bc bs Φ := fun c => by
        generalize hf : (fun j => if j < 8 then balS pg pt pw pm minute lapse j i else m_i M (B + 6) j) = f at *
        have hfj : ∀ j, f j = if j < 8 then balS pg pt pw pm minute lapse j i else m_i M (B + 6) j := fun j => by rw [← hf]
        have e0 : m_r (m_row M (B + 6) f) B 0 = B + 1 := p1
        have e1 : m_r (m_row M (B + 6) f) B 1 = B + 2 := p2
        have e2 : m_r (m_row M (B + 6) f) B 2 = B + 3 := p3
        have e5 : m_r (m_row M (B + 6) f) B 5 = B + 6 := p6
        have q1 : m_i (m_row M (B + 6) f) (B + 1) i = nI (pg i) := by rw [m_i_row, if_neg (by omega)]; exact r1
        have q3 : m_i (m_row M (B + 6) f) (B + 3) i = pw i := by rw [m_i_row, if_neg (by omega)]; exact r3
        have q2 : ∀ k v, m_i (m_si (m_row M (B + 6) f) (B + 6) k v) (B + 2) i = nI (pt i) := fun k v => by rw [m_i_si, if_neg (by omega), m_i_row, if_neg (by omega)]; exact r2
        have q3' : ∀ k v, m_i (m_si (m_row M (B + 6) f) (B + 6) k v) (B + 3) i = pw i := fun k v => by rw [m_i_si, if_neg (by omega)]; exact q3
        have cg : (nI (pg i)).toNatClampNeg = pg i := nI_clamp (by omega)
        have ct : (nI (pt i)).toNatClampNeg = pt i := nI_clamp (by omega)
        refine bPb_balanceAt_35 _ B _ _ _ ⟨p0, by rw [e0]; exact congrArg Prod.fst s1, by rw [e0, m_sh_row, s1]; exact hin, by rw [e5]; exact congrArg Prod.fst s6, by rw [e0, e5, hcl, q1, m_sh_row, s6]; exact vp_in_nI g1 (by decide), by rw [e2]; exact congrArg Prod.fst s3, by rw [e2, m_sh_row, s3]; exact hin, by rw [e1]; exact congrArg Prod.fst s2, by rw [e1, m_sh_row, s2]; exact hin, ?_, ?_⟩
        · rw [e0, e1, e2, e5, hcl, q1, cg, q2, m_sh_row, s6]
          exact vp_in_nI g2 (by decide)
        · rw [e0, e1, e2, e5, hcl, q1, cg, q2, q3, q3', ct]
          refine bPb_balanceAt_75 _ B _ _ _ ?_
          have e9 : m_si (m_si (m_row M (B + 6) f) (B + 6) (pg i) (m_i (m_row M (B + 6) f) (B + 6) (pg i) + pw i)) (B + 6) (pt i) (m_i (m_si (m_row M (B + 6) f) (B + 6) (pg i) (m_i (m_row M (B + 6) f) (B + 6) (pg i) + pw i)) (B + 6) (pt i) - pw i) = m_row M (B + 6) (fun j => if j < 8 then balS pg pt pw pm minute lapse j (i + 1) else m_i M (B + 6) j) := by
            rw [m_si_row, m_si_row, m_row_row, m_row_row]
            apply m_row_congr
            intro j
            simp only [m_i_rowS]
            rw [if_neg (Ne.symm g3)]
            show _ = if j < 8 then (if lapse = -1 ∨ ¬ lapse < minute - pm i then _ else _) else _
            rw [if_pos c]
            by_cases j1 : j = pt i
            · subst j1
              rw [if_pos rfl, if_pos g2, if_neg (Ne.symm g3), if_pos rfl, hfj, if_pos g2]
            · rw [if_neg j1]
              by_cases j2 : j = pg i
              · subst j2
                rw [if_pos rfl, if_pos g1, if_pos rfl, hfj, if_pos g1]
              · rw [if_neg j2, hfj]
                by_cases j3 : j < 8
                · rw [if_pos j3, if_pos j3, if_neg j2, if_neg j1]
                · rw [if_neg j3, if_neg j3]
          rw [e9]
          exact hstep
      have r4' : m_i (m_row M (B + 6) (fun j => if j < 8 then balS pg pt pw pm minute lapse j i else m_i M (B + 6) j)) (B + 4) i = pm i := by rw [m_i_row, if_neg (by omega)]; exact r4
      have e3 : m_r (m_row M (B + 6) (fun j => if j < 8 then balS pg pt pw pm minute lapse j i else m_i M (B + 6) j)) B 3 = B + 4 := p4
      refine bPb_balanceAt_10 _ B _ _ _ ⟨p0, fun c => absurd c (by rw [m_i_row, if_neg (by omega), hR.1]; exact nI_not_le (by omega) (by omega)), fun _ => ⟨fun c => hlive (Or.inl c), fun c => ⟨by rw [e3]; exact congrArg Prod.fst s4, by rw [e3, m_sh_row, s4]; exact hin, fun c2 => hskip ?_, fun c2 => hlive ?_⟩⟩⟩
      · rw [e3, hcl, r4'] at c2
        exact fun q => q.elim c (fun q => q c2)
      · rw [e3, hcl, r4'] at c2
        exact Or.inr c2
  exact loop n 0 (by omega)
/-- one more pass -/
theorem ct_write (M : Mm) (B n : Nat) (hP : PBok M B) (hz : m_i M B 6 = nI n) (hn : n < 28) (x1 x2 x3 x4 : Int32)
    (h : Φ (.inl none) (m_si (m_si (m_si (m_si (m_si M (B + 1) n x1) (B + 2) n x2) (B + 3) n x3) (B + 4) n x4) B 6 (nI (n + 1)))) : Ct l G d mPb_write bc bs [.ref B, .int x1, .int x2, .int x3, .int x4] M Φ := by
  obtain ⟨p0, p1, p2, p3, p4, -, -, s1, s2, s3, s4, -, -⟩ := id hP
  have hcl : (nI n).toNatClampNeg = n := nI_clamp (by omega)
  have hin : vp_in (nI n) 28 := vp_in_nI hn (by omega)
  refine Ct.of rfl (Nat.le_of_ble_eq_true rfl) ?_
  refine bPb_write_0 M B _ _ _ _ ⟨p0, fun c => absurd c (by rw [hz]; exact nI_not_le hn (by decide)), fun _ => ⟨by rw [p1, s1], by rw [p1, s1, hz]; exact hin, by rw [p2, s2], by rw [p1, p2, s2, m_i_si, if_neg (by omega), hz]; exact hin, ?_⟩⟩
  rw [p1, p2, m_i_si, if_neg (by omega), hz, hcl]
  refine bPb_write_29 _ B _ _ _ _ ⟨p0, ?_⟩
  have f2 : m_r (m_si (m_si M (B + 1) n x1) (B + 2) n x2) B 2 = B + 3 := p3
  have f3 : m_r (m_si (m_si M (B + 1) n x1) (B + 2) n x2) B 3 = B + 4 := p4
  have hz2 : m_i (m_si (m_si M (B + 1) n x1) (B + 2) n x2) B 6 = nI n := by rw [m_i_si, if_neg (by omega), m_i_si, if_neg (by omega), hz]
  have hz3 : ∀ k v, m_i (m_si (m_si (m_si M (B + 1) n x1) (B + 2) n x2) (B + 3) k v) B 6 = nI n := fun k v => by rw [m_i_si, if_neg (by omega), hz2]
  refine ⟨by rw [f2]; exact congrArg Prod.fst s3, by rw [f2, hz2, m_sh_si, m_sh_si, s3]; exact hin, by rw [f3]; exact congrArg Prod.fst s4, by rw [f2, f3, hz2, hz3, m_sh_si, m_sh_si, s4]; exact hin, ?_⟩
  rw [f2, f3, hz2, hz3, hcl]
  refine bPb_write_50 _ B _ _ _ _ ⟨p0, ?_⟩
  have hz4 : m_i (m_si (m_si (m_si (m_si M (B + 1) n x1) (B + 2) n x2) (B + 3) n x3) (B + 4) n x4) B 6 = nI n := by rw [m_i_si, if_neg (by omega), hz3]
  rw [hz4, nI_1]
  exact h
end SPB
