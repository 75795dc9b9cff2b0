/-! ===== the reference's DAY: who is there, who comes next, who is due ===== -/
/-- the order by minutes is settled: everyone has a place, and who came at one minute stands by number -/
def cfST (c : Cf) : Prop := (∀ p, p < c_n c → ∃ j, j < c_n c ∧ c_by c j = p) ∧ ∀ i j, i < j → j < c_n c → c_F c (c_by c i) 0 < c_F c (c_by c j) 0 ∨ (c_F c (c_by c i) 0 = c_F c (c_by c j) 0 ∧ c_by c i < c_by c j)
def lexR (c : Cf) (a b : Nat) : Prop := c_F c a 0 < c_F c b 0 ∨ (c_F c a 0 = c_F c b 0 ∧ a < b)
theorem sorted_ext {r : Nat → Nat → Prop} (hr : ∀ a b, r a b → r b a → False) : ∀ l1 l2 : List Nat, l1.Pairwise r → l2.Pairwise r → (∀ x, x ∈ l1 ↔ x ∈ l2) → l1 = l2
  | [], [], _, _, _ => rfl
  | [], b :: t, _, _, h => absurd ((h b).mpr (List.mem_cons_self ..)) (by simp)
  | a :: s, [], _, _, h => absurd ((h a).mp (List.mem_cons_self ..)) (by simp)
  | a :: s, b :: t, h1, h2, h => by
    rw [List.pairwise_cons] at h1 h2
    have e : a = b := by
      rcases List.mem_cons.mp ((h a).mp (List.mem_cons_self ..)) with q | q
      · exact q
      · rcases List.mem_cons.mp ((h b).mpr (List.mem_cons_self ..)) with q2 | q2
        · exact q2.symm
        · exact (hr _ _ (h1.1 b q2) (h2.1 a q)).elim
    subst e
    rw [sorted_ext hr s t h1.2 h2.2 (fun x => ?_)]
    constructor
    · intro q
      rcases List.mem_cons.mp ((h x).mp (List.mem_cons_of_mem _ q)) with q2 | q2
      · subst q2; exact (hr _ _ (h1.1 _ q) (h1.1 _ q)).elim
      · exact q2
    · intro q
      rcases List.mem_cons.mp ((h x).mpr (List.mem_cons_of_mem _ q)) with q2 | q2
      · subst q2; exact (hr _ _ (h2.1 _ q) (h2.1 _ q)).elim
      · exact q2
theorem lexR.as {c : Cf} (a b : Nat) (h : lexR c a b) (h2 : lexR c b a) : False := by unfold lexR at h h2; omega
theorem thN_sorted {c : Cf} (hs : cfST c) {mm sv : Nat} : ∀ i, i ≤ c_n c → (thN c mm sv i).Pairwise (lexR c)
  | 0, _ => List.Pairwise.nil
  | i + 1, hi => by
    have ih := thN_sorted hs (mm := mm) (sv := sv) i (by omega)
    unfold thN
    by_cases h : okN c mm sv (c_by c i) = true
    · rw [if_pos h, List.pairwise_append]
      refine ⟨ih, List.pairwise_singleton .., fun a ha b hb => ?_⟩
      rw [List.mem_singleton] at hb
      obtain ⟨⟨j, h1, h2⟩, -⟩ := (thN_mem i a).mp ha
      have := hs.2 j i h1 (by omega)
      rw [h2] at this
      rw [hb]
      exact this
    · rw [if_neg h]; exact ih
def insAt (T : List Nat) (q i : Nat) : List Nat := T.take q ++ i :: T.drop q
theorem insAt_len {T : List Nat} {q : Nat} (i : Nat) (h : q ≤ T.length) : (insAt T q i).length = T.length + 1 := by
  unfold insAt
  rw [List.length_append, List.length_cons, List.length_take, List.length_drop]
  omega
theorem insAt_get {T : List Nat} {q : Nat} (i : Nat) (h : q ≤ T.length) (j : Nat) : (insAt T q i).getD j 0 = if j < q then T.getD j 0 else if j = q then i else T.getD (j - 1) 0 := by
  unfold insAt
  simp only [List.getD_eq_getElem?_getD]
  have hl : (T.take q).length = q := by rw [List.length_take]; omega
  by_cases h1 : j < q
  · rw [if_pos h1, List.getElem?_append_left (by omega), List.getElem?_take_of_lt h1]
  · rw [if_neg h1, List.getElem?_append_right (by omega), hl]
    by_cases h2 : j = q
    · rw [if_pos h2, h2, Nat.sub_self]
      rfl
    · rw [if_neg h2, show j - q = (j - q - 1) + 1 by omega, List.getElem?_cons_succ, List.getElem?_drop, show q + (j - q - 1) = j - 1 by omega]
theorem insAt_mem {T : List Nat} {q i : Nat} (x : Nat) : x ∈ insAt T q i ↔ x = i ∨ x ∈ T := by
  unfold insAt
  rw [List.mem_append, List.mem_cons]
  have := List.take_append_drop q T
  constructor
  · rintro (h | h | h)
    · exact Or.inr (List.mem_of_mem_take h)
    · exact Or.inl h
    · exact Or.inr (List.mem_of_mem_drop h)
  · rintro (h | h)
    · exact Or.inr (Or.inl h)
    · rw [← this, List.mem_append] at h
      exact h.elim Or.inl (fun z => Or.inr (Or.inr z))
theorem insAt_sorted {c : Cf} {T : List Nat} {q i : Nat} (hT : T.Pairwise (lexR c)) (h1 : ∀ x ∈ T, x < i) (hq : q ≤ T.length) (h2 : 0 < q → c_F c (T.getD (q - 1) 0) 0 ≤ c_F c i 0) (h3 : ∀ j, q ≤ j → j < T.length → ¬ c_F c (T.getD j 0) 0 ≤ c_F c i 0) : (insAt T q i).Pairwise (lexR c) := by
  have hlex : ∀ a b, a < b → b < T.length → lexR c (T.getD a 0) (T.getD b 0) := fun a b hab hb => by
    have := List.pairwise_iff_getElem.mp hT a b (by omega) hb hab
    rw [List.getD_eq_getElem?_getD, List.getD_eq_getElem?_getD, List.getElem?_eq_getElem (by omega), List.getElem?_eq_getElem hb]
    exact this
  rw [List.pairwise_iff_getElem]
  intro a b ha hb hab
  have ea : (insAt T q i)[a] = (insAt T q i).getD a 0 := by rw [List.getD_eq_getElem?_getD, List.getElem?_eq_getElem ha]; rfl
  have eb : (insAt T q i)[b] = (insAt T q i).getD b 0 := by rw [List.getD_eq_getElem?_getD, List.getElem?_eq_getElem hb]; rfl
  rw [insAt_len i hq] at ha hb
  rw [ea, eb, insAt_get i hq, insAt_get i hq]
  have hmem : ∀ j, j < T.length → T.getD j 0 < i := fun j hj => h1 _ (getD_mem hj)
  by_cases a1 : a < q
  · rw [if_pos a1]
    by_cases b1 : b < q
    · rw [if_pos b1]; exact hlex a b hab (by omega)
    · rw [if_neg b1]
      by_cases b2 : b = q
      · rw [if_pos b2]
        have f1 : c_F c (T.getD a 0) 0 ≤ c_F c (T.getD (q - 1) 0) 0 := by
          by_cases z : a = q - 1
          · rw [z]; exact Nat.le_refl _
          · have := hlex a (q - 1) (by omega) (by omega)
            unfold lexR at this; omega
        have := h2 (by omega)
        have := hmem a (by omega)
        unfold lexR; omega
      · rw [if_neg b2]
        exact hlex a (b - 1) (by omega) (by omega)
  · rw [if_neg a1]
    by_cases a2 : a = q
    · rw [if_pos a2, if_neg (by omega), if_neg (by omega)]
      have := h3 (b - 1) (by omega) (by omega)
      unfold lexR; omega
    · rw [if_neg a2, if_neg (by omega), if_neg (by omega)]
      exact hlex (a - 1) (b - 1) (by omega) (by omega)
def THr (M : Mm) (L : List Nat) : Prop := m_i M 206 57 = nI L.length ∧ ∀ j, j < L.length → m_i M 345 j = nI (L.getD j 0)
def QTh : Nat → Nat → Prop := fun a j => a = 345 ∨ (a = 206 ∧ j = 57)
theorem QTh.d : ∀ a j, QTh a j → QD a j := fun a j h => by unfold QTh at h; unfold QD; omega
/-- the least minute after this one -/
def nxC (o : Option Nat) (x : Nat) : Option Nat := match o with
  | none => some x
  | some m => if m ≤ x then some m else some x
def nxR (c : Cf) (mm : Nat) : Nat → Option Nat
  | 0 => none
  | i + 1 => if c_F c i 0 ≤ mm then nxR c mm i else nxC (nxR c mm i) (c_F c i 0)
theorem nxR_succ (c : Cf) (mm i : Nat) : nxR c mm (i + 1) = if c_F c i 0 ≤ mm then nxR c mm i else nxC (nxR c mm i) (c_F c i 0) := rfl
theorem nxC_none (x : Nat) : nxC none x = some x := rfl
theorem nxC_some (m x : Nat) : nxC (some m) x = if m ≤ x then some m else some x := rfl
theorem nxR_sp {c : Cf} {mm : Nat} : ∀ i, (nxR c mm i = none ∧ ∀ p, p < i → c_F c p 0 ≤ mm) ∨ ∃ m, nxR c mm i = some m ∧ mm < m ∧ (∃ p, p < i ∧ c_F c p 0 = m) ∧ ∀ p, p < i → mm < c_F c p 0 → m ≤ c_F c p 0
  | 0 => Or.inl ⟨rfl, fun p h => absurd h (Nat.not_lt_zero p)⟩
  | i + 1 => by
    have ih := nxR_sp (c := c) (mm := mm) i
    rw [nxR_succ]
    by_cases h : c_F c i 0 ≤ mm
    · rw [if_pos h]
      rcases ih with ⟨a, b⟩ | ⟨m, a, b, ⟨p, e1, e2⟩, f⟩
      · refine Or.inl ⟨a, fun p hp => ?_⟩
        by_cases z : p = i
        · rw [z]; exact h
        · exact b p (by omega)
      · refine Or.inr ⟨m, a, b, ⟨p, by omega, e2⟩, fun p hp hp2 => ?_⟩
        by_cases z : p = i
        · rw [z] at hp2; omega
        · exact f p (by omega) hp2
    · rw [if_neg h]
      rcases ih with ⟨a, b⟩ | ⟨m, a, b, ⟨p, e1, e2⟩, f⟩
      · rw [a, nxC_none]
        refine Or.inr ⟨_, rfl, by omega, ⟨i, by omega, rfl⟩, fun p hp hp2 => ?_⟩
        by_cases z : p = i
        · rw [z]; exact Nat.le_refl _
        · have := b p (by omega); omega
      · rw [a, nxC_some]
        by_cases h2 : m ≤ c_F c i 0
        · rw [if_pos h2]
          refine Or.inr ⟨m, rfl, b, ⟨p, by omega, e2⟩, fun p hp hp2 => ?_⟩
          by_cases z : p = i
          · rw [z]; exact h2
          · exact f p (by omega) hp2
        · rw [if_neg h2]
          refine Or.inr ⟨_, rfl, by omega, ⟨i, by omega, rfl⟩, fun p hp hp2 => ?_⟩
          by_cases z : p = i
          · rw [z]; exact Nat.le_refl _
          · have := f p (by omega) hp2; omega
theorem nextN_sp {c : Cf} (hs : cfST c) {mm : Nat} : ∀ k i, i + k = c_n c → (nextN c mm i k = none ∧ ∀ j, i ≤ j → j < c_n c → c_F c (c_by c j) 0 ≤ mm) ∨ ∃ m, nextN c mm i k = some m ∧ mm < m ∧ (∃ j, j < c_n c ∧ c_F c (c_by c j) 0 = m) ∧ ∀ j, i ≤ j → j < c_n c → mm < c_F c (c_by c j) 0 → m ≤ c_F c (c_by c j) 0
  | 0, i, hi => Or.inl ⟨rfl, fun j h1 h2 => absurd h2 (by omega)⟩
  | k + 1, i, hi => by
    unfold nextN
    by_cases h : c_F c (c_by c i) 0 ≤ mm
    · rw [if_pos h]
      rcases nextN_sp hs k (i + 1) (by omega) with ⟨a, b⟩ | ⟨m, a, b, e, f⟩
      · refine Or.inl ⟨a, fun j h1 h2 => ?_⟩
        by_cases z : j = i
        · rw [z]; exact h
        · exact b j (by omega) h2
      · refine Or.inr ⟨m, a, b, e, fun j h1 h2 h3 => ?_⟩
        by_cases z : j = i
        · rw [z] at h3; omega
        · exact f j (by omega) h2 h3
    · rw [if_neg h]
      refine Or.inr ⟨_, rfl, by omega, ⟨i, by omega, rfl⟩, fun j h1 h2 h3 => ?_⟩
      by_cases z : j = i
      · rw [z]; exact Nat.le_refl _
      · have := hs.2 i j (by omega) h2; omega
theorem nx_eq {c : Cf} (hc : cfOK c) (hs : cfST c) (mm : Nat) : nxR c mm (c_n c) = nextN c mm 0 (c_n c) := by
  rcases nxR_sp (c := c) (mm := mm) (c_n c) with ⟨a, b⟩ | ⟨m, a, b, ⟨p, e1, e2⟩, f⟩
  · rcases nextN_sp hs (mm := mm) (c_n c) 0 (by omega) with ⟨a', b'⟩ | ⟨m', a', b', ⟨j, j1, j2⟩, f'⟩
    · rw [a, a']
    · have := b _ (hc.2.1 j j1); omega
  · rcases nextN_sp hs (mm := mm) (c_n c) 0 (by omega) with ⟨a', b'⟩ | ⟨m', a', b', ⟨j, j1, j2⟩, f'⟩
    · obtain ⟨i, i1, i2⟩ := hs.1 p e1
      have := b' i (by omega) i1
      rw [i2] at this; omega
    · have h1 := f _ (hc.2.1 j j1) (by omega)
      obtain ⟨i, i1, i2⟩ := hs.1 p e1
      have h2 := f' i (by omega) i1 (by rw [i2]; omega)
      rw [i2] at h2
      rw [a, a', show m = m' by omega]
section SR3
variable {l : Launch} {G : Gx} {d : Nat} {bc bs : Nat} {Φ : OutV → Mm → Prop}
theorem ct_nextComes (M : Mm) (c : Cf) (hc : cfOK c) (hs : cfST c) (hS : RS M) (hP : RPrep M (c_n c) (c_f c)) (mm : Nat) (hm : mm < 2000) (h : Φ (.inl (some (.int (oN (nextN c mm 0 (c_n c)))))) M) : Ct l G d mRe_nextComes bc bs [.ref 206, .int (nI mm)] M Φ := by
  have n8 := hc.1
  rw [← nx_eq hc hs] at h
  refine Ct.of rfl (Nat.le_of_ble_eq_true rfl) ?_
  refine bRe_nextComes_0 M 206 _ ?_
  have loop : ∀ e i, i + e = c_n c → Ev l G d mRe_nextComes 4 [.ref 206, .int (nI mm), .int (oN (nxR c mm i)), .int (nI i)] [] M bc bs Φ := by
    intro e
    induction e with
    | zero =>
      intro i hi
      obtain rfl : i = c_n c := by omega
      refine bRe_nextComes_4 M 206 _ _ _ ⟨hS.c, fun _ => h, fun q => absurd ?_ q⟩
      rw [hP.1]; exact nI_le (Nat.le_refl _) (by omega)
    | succ e ih =>
      intro i hi
      have f0 := (hc.2.2.2.1 i (by omega)).1
      have ef : m_i M (218 + i) 0 = nI (c_F c i 0) := hP.2.2 i 0 (by omega) (by omega)
      have hnext : ∀ v, v = oN (nxR c mm (i + 1)) → Ev l G d mRe_nextComes 50 [.ref 206, .int (nI mm), .int v, .int (nI i)] [] M bc bs Φ := fun v ev => by
        refine bRe_nextComes_50 M 206 _ _ _ ?_
        rw [ev, nI_1]
        exact ih (i + 1) (by omega)
      have htake : ∀ v, nxR c mm (i + 1) = some (c_F c i 0) → Ev l G d mRe_nextComes 41 [.ref 206, .int (nI mm), .int v, .int (nI i)] [] M bc bs Φ := fun v ev => by
        refine bRe_nextComes_41 M 206 _ _ _ ?_
        simp (disch := omega) only [hS.c, hS.r_fed, hS.s_fed, hS.r_rKind, hS.s_rKind, hS.r_kind, hS.s_kind, hS.r_rNum, hS.s_rNum, hS.r_num, hS.s_num, hS.r_rLong, hS.s_rLong, hS.r_cLong, hS.s_cLong, hS.r_stack, hS.s_stack, hS.r_names, hS.s_names, hS.r_row, hS.s_row, hS.r_ruleOf, hS.s_ruleOf, hS.r_ways, hS.s_ways, hS.r_cWho, hS.s_cWho, hS.r_cMin, hS.s_cMin, hS.r_cOff, hS.s_cOff, hS.r_cTh, hS.s_cTh, hS.r_cEnd, hS.s_cEnd, hS.r_hds, hS.s_hds, hS.r_ends, hS.s_ends, hS.r_there, hS.s_there, hS.r_offd, hS.s_offd, hS.r_had, hS.s_had, hS.r_rPer, hS.s_rPer, hS.r_rP, hS.s_rP, hS.r_per, hS.s_per, hS.r_pr, hS.s_pr, hS.r_rCode, hS.s_rCode, hS.r_rC, hS.s_rC, hS.r_code, hS.s_code, hS.r_cd, hS.s_cd, hS.r_kept, hS.s_kept, hS.r_kp, hS.s_kp, hS.r_holder, hS.s_holder, hS.r_hd, hS.s_hd, hS.r_pass, hS.s_pass, hS.r_ps, hS.s_ps, hS.r_debt, hS.s_debt, hS.r_db, hS.s_db, hS.r_endBy, hS.s_endBy, hS.r_eb, hS.s_eb, vpT, vpk0, clk0, vpk1, clk1, vpk2, clk2, vpk3, clk3, vpk4, clk4, vpk5, clk5, vpk6, clk6, vpk7, clk7, vpk8, clk8, vpk9, clk9, nI_clamp, nI_1, true_and, ef]
        exact hnext _ (by rw [ev]; rfl)
      refine bRe_nextComes_4 M 206 _ _ _ ?_
      simp (disch := omega) only [hS.c, hS.r_fed, hS.s_fed, hS.r_rKind, hS.s_rKind, hS.r_kind, hS.s_kind, hS.r_rNum, hS.s_rNum, hS.r_num, hS.s_num, hS.r_rLong, hS.s_rLong, hS.r_cLong, hS.s_cLong, hS.r_stack, hS.s_stack, hS.r_names, hS.s_names, hS.r_row, hS.s_row, hS.r_ruleOf, hS.s_ruleOf, hS.r_ways, hS.s_ways, hS.r_cWho, hS.s_cWho, hS.r_cMin, hS.s_cMin, hS.r_cOff, hS.s_cOff, hS.r_cTh, hS.s_cTh, hS.r_cEnd, hS.s_cEnd, hS.r_hds, hS.s_hds, hS.r_ends, hS.s_ends, hS.r_there, hS.s_there, hS.r_offd, hS.s_offd, hS.r_had, hS.s_had, hS.r_rPer, hS.s_rPer, hS.r_rP, hS.s_rP, hS.r_per, hS.s_per, hS.r_pr, hS.s_pr, hS.r_rCode, hS.s_rCode, hS.r_rC, hS.s_rC, hS.r_code, hS.s_code, hS.r_cd, hS.s_cd, hS.r_kept, hS.s_kept, hS.r_kp, hS.s_kp, hS.r_holder, hS.s_holder, hS.r_hd, hS.s_hd, hS.r_pass, hS.s_pass, hS.r_ps, hS.s_ps, hS.r_debt, hS.s_debt, hS.r_db, hS.s_db, hS.r_endBy, hS.s_endBy, hS.r_eb, hS.s_eb, vpT, vpk0, clk0, vpk1, clk1, vpk2, clk2, vpk3, clk3, vpk4, clk4, vpk5, clk5, vpk6, clk6, vpk7, clk7, vpk8, clk8, vpk9, clk9, nI_clamp, nI_1, true_and, ef, hP.1]
      refine ⟨fun q => absurd q (nI_not_le (by omega) (by omega)), fun _ => ⟨fun q => hnext _ ?_, fun q => ⟨fun q2 => htake _ ?_, fun q2 => ⟨fun q3 => hnext _ ?_, fun q3 => htake _ ?_⟩⟩⟩⟩
      · have q' := (nI_leI (by omega) (by omega)).mp q
        rw [show nxR c mm (i + 1) = nxR c mm i from if_pos q']
      · have q' : ¬ c_F c i 0 ≤ mm := fun z => q (nI_le z (by omega))
        rw [nxR_succ, if_neg q']
        rcases nxR_sp (c := c) (mm := mm) i with ⟨a, -⟩ | ⟨m, a, -, ⟨p, p1, p2⟩, -⟩
        · rw [a, nxC_none]
        · rw [a] at q2
          have := (hc.2.2.2.1 p (by omega)).1
          exact absurd q2 (nI_neg (by omega))
      · have q' : ¬ c_F c i 0 ≤ mm := fun z => q (nI_le z (by omega))
        rw [nxR_succ, if_neg q']
        rcases nxR_sp (c := c) (mm := mm) i with ⟨a, -⟩ | ⟨m, a, -, ⟨p, p1, p2⟩, -⟩
        · rw [a] at q2; exact absurd rfl q2
        · rw [a] at q3 ⊢
          have := (hc.2.2.2.1 p (by omega)).1
          rw [nxC_some, if_pos ((nI_leI (by omega) (by omega)).mp q3)]
      · have q' : ¬ c_F c i 0 ≤ mm := fun z => q (nI_le z (by omega))
        rw [nxR_succ, if_neg q']
        rcases nxR_sp (c := c) (mm := mm) i with ⟨a, -⟩ | ⟨m, a, -, ⟨p, p1, p2⟩, -⟩
        · rw [a] at q2; exact absurd rfl q2
        · rw [a] at q3 ⊢
          have := (hc.2.2.2.1 p (by omega)).1
          rw [nxC_some, if_neg (fun z => q3 ((nI_leI (by omega) (by omega)).mpr z))]
  exact loop (c_n c) 0 (by omega)
theorem ct_layThere (M : Mm) (c : Cf) (hc : cfOK c) (hs : cfST c) (hS : RS M) (hP : RPrep M (c_n c) (c_f c)) (mm sv : Nat) (hm : mm < 2000) (heo : ∀ p, p < 8 → (m_i M 269 p = -1 ↔ sv.testBit p = false)) (h : ∀ M', FrS QTh M M' → THr M' (thN c mm sv (c_n c)) → Φ (.inl none) M') : Ct l G d mRe_layThere bc bs [.ref 206, .int (nI mm)] M Φ := by
  have n8 := hc.1
  refine Ct.of rfl (Nat.le_of_ble_eq_true rfl) ?_
  refine bRe_layThere_0 M 206 _ ⟨hS.c, ?_⟩
  have loop : ∀ e i (T : List Nat) (u : Value) M', i + e = c_n c → FrS QTh M M' → THr M' T → T.Pairwise (lexR c) → (∀ x, x ∈ T ↔ x < i ∧ okN c mm sv x = true) → Ev l G d mRe_layThere 7 [.ref 206, .int (nI mm), .int (nI i), u] [] M' bc bs Φ := by
    intro e
    induction e with
    | zero =>
      intro i T u M' hi hF hT hs1 hmem
      have eT : T = thN c mm sv (c_n c) := by
        refine sorted_ext lexR.as _ _ hs1 (thN_sorted hs _ (Nat.le_refl _)) (fun x => ?_)
        rw [hmem, thN_mem]
        constructor
        · rintro ⟨a, b⟩
          obtain ⟨j, j1, j2⟩ := hs.1 x (by omega)
          exact ⟨⟨j, j1, j2⟩, b⟩
        · rintro ⟨⟨j, j1, j2⟩, b⟩
          have := hc.2.1 j j1
          exact ⟨by omega, b⟩
      subst eT
      refine bRe_layThere_7 M' 206 _ _ _ ⟨(hS.fr hF).c, fun _ => h M' hF hT, fun q => absurd ?_ q⟩
      rw [hF.1 _ _ (by unfold QTh; omega), hP.1]
      exact nI_le (by omega) (by omega)
    | succ e ih =>
      intro i T u M' hi hF hT hs1 hmem
      have hS' := hS.fr hF
      have hlen : T.length ≤ 8 := by
        have hnd : T.Nodup := hs1.imp (fun {a b} (q : lexR c a b) (e : a = b) => by subst e; exact lexR.as _ _ q q)
        exact nodup_le 8 T hnd (fun x hx => by have := (hmem x).mp hx; omega)
      have hlen7 : T.length ≤ i := by
        have hnd : T.Nodup := hs1.imp (fun {a b} (q : lexR c a b) (e : a = b) => by subst e; exact lexR.as _ _ q q)
        exact nodup_le i T hnd (fun x hx => by have := (hmem x).mp hx; omega)
      obtain ⟨f0, -, -, -, f4, f4', -⟩ := hc.2.2.2.1 i (by omega)
      have hPf : ∀ p, p < c_n c → m_i M' (218 + p) 0 = nI (c_F c p 0) := fun p hp => by rw [hF.1 _ _ (by unfold QTh; omega)]; exact hP.2.2 p 0 hp (by omega)
      have hP4 : m_i M' (218 + i) 4 = nI (c_F c i 4) := by rw [hF.1 _ _ (by unfold QTh; omega)]; exact hP.2.2 i 4 (by omega) (by omega)
      have ef := hPf i (by omega)
      have e11 : m_i M' 206 11 = nI (c_n c) := by rw [hF.1 _ _ (by unfold QTh; omega)]; exact hP.1
      have ee : m_i M' 269 i = m_i M 269 i := hF.1 _ _ (by unfold QTh; omega)
      have h133 : ∀ (w : Value), okN c mm sv i = false → Ev l G d mRe_layThere 133 [.ref 206, .int (nI mm), .int (nI i), w] [] M' bc bs Φ := fun w hno => by
        refine bRe_layThere_133 M' 206 _ _ _ ?_
        rw [nI_1]
        refine ih (i + 1) T w M' (by omega) hF hT hs1 (fun x => ?_)
        rw [hmem]
        constructor
        · rintro ⟨a, b⟩; exact ⟨by omega, b⟩
        · rintro ⟨a, b⟩
          refine ⟨?_, b⟩
          by_cases z : x = i
          · rw [z, hno] at b; cases b
          · omega
      have h66 : okN c mm sv i = true → ∀ q, q ≤ T.length → ∀ M2, FrS QTh M M2 → m_i M2 206 57 = nI T.length → (∀ j, j < q → m_i M2 345 j = nI (T.getD j 0)) → (∀ j, q ≤ j → j < T.length → m_i M2 345 (j + 1) = nI (T.getD j 0)) → (∀ j, q ≤ j → j < T.length → ¬ c_F c (T.getD j 0) 0 ≤ c_F c i 0) → Ev l G d mRe_layThere 66 [.ref 206, .int (nI mm), .int (nI i), .int (nI q)] [] M2 bc bs Φ := by
        intro hok q
        have h116 : ∀ q, q ≤ T.length → ∀ M2, FrS QTh M M2 → m_i M2 206 57 = nI T.length → (∀ j, j < q → m_i M2 345 j = nI (T.getD j 0)) → (∀ j, q ≤ j → j < T.length → m_i M2 345 (j + 1) = nI (T.getD j 0)) → (∀ j, q ≤ j → j < T.length → ¬ c_F c (T.getD j 0) 0 ≤ c_F c i 0) → (0 < q → c_F c (T.getD (q - 1) 0) 0 ≤ c_F c i 0) → Ev l G d mRe_layThere 116 [.ref 206, .int (nI mm), .int (nI i), .int (nI q)] [] M2 bc bs Φ := by
          intro q hq M2 hF2 h57 hlo hhi hgt hle
          have hS2 := hS.fr hF2
          refine bRe_layThere_116 M2 206 _ _ _ ?_
          simp (disch := omega) only [hS2.c, hS2.r_fed, hS2.s_fed, hS2.r_rKind, hS2.s_rKind, hS2.r_kind, hS2.s_kind, hS2.r_rNum, hS2.s_rNum, hS2.r_num, hS2.s_num, hS2.r_rLong, hS2.s_rLong, hS2.r_cLong, hS2.s_cLong, hS2.r_stack, hS2.s_stack, hS2.r_names, hS2.s_names, hS2.r_row, hS2.s_row, hS2.r_ruleOf, hS2.s_ruleOf, hS2.r_ways, hS2.s_ways, hS2.r_cWho, hS2.s_cWho, hS2.r_cMin, hS2.s_cMin, hS2.r_cOff, hS2.s_cOff, hS2.r_cTh, hS2.s_cTh, hS2.r_cEnd, hS2.s_cEnd, hS2.r_hds, hS2.s_hds, hS2.r_ends, hS2.s_ends, hS2.r_there, hS2.s_there, hS2.r_offd, hS2.s_offd, hS2.r_had, hS2.s_had, hS2.r_rPer, hS2.s_rPer, hS2.r_rP, hS2.s_rP, hS2.r_per, hS2.s_per, hS2.r_pr, hS2.s_pr, hS2.r_rCode, hS2.s_rCode, hS2.r_rC, hS2.s_rC, hS2.r_code, hS2.s_code, hS2.r_cd, hS2.s_cd, hS2.r_kept, hS2.s_kept, hS2.r_kp, hS2.s_kp, hS2.r_holder, hS2.s_holder, hS2.r_hd, hS2.s_hd, hS2.r_pass, hS2.s_pass, hS2.r_ps, hS2.s_ps, hS2.r_debt, hS2.s_debt, hS2.r_db, hS2.s_db, hS2.r_endBy, hS2.s_endBy, hS2.r_eb, hS2.s_eb, vpT, vpk0, clk0, vpk1, clk1, vpk2, clk2, vpk3, clk3, vpk4, clk4, vpk5, clk5, vpk6, clk6, vpk7, clk7, vpk8, clk8, vpk9, clk9, nI_clamp, nI_1, true_and]
          refine bRe_layThere_133 _ 206 _ _ _ ?_
          rw [nI_1, m_i_si, if_neg (by omega), h57, nI_1]
          refine ih (i + 1) (insAt T q i) _ _ (by omega) ((hF2.tr (FrS.si (Or.inl rfl) _)).tr (FrS.si (Or.inr ⟨rfl, rfl⟩) _)) ⟨?_, fun j hj => ?_⟩ (insAt_sorted hs1 (fun x hx => ((hmem x).mp hx).1) hq hle hgt) (fun x => ?_)
          · rw [m_i_si, if_pos ⟨rfl, rfl⟩, insAt_len i hq]
          · rw [insAt_len i hq] at hj
            rw [m_i_si, if_neg (by omega), m_i_si, insAt_get i hq]
            by_cases z : j = q
            · rw [if_pos ⟨rfl, z⟩, if_neg (by omega), if_pos z]
            · rw [if_neg (fun y => z y.2)]
              by_cases z2 : j < q
              · rw [if_pos z2]; exact hlo j z2
              · rw [if_neg z2, if_neg z]
                have := hhi (j - 1) (by omega) (by omega)
                rw [show j - 1 + 1 = j by omega] at this
                exact this
          · rw [insAt_mem, hmem]
            constructor
            · rintro (a | ⟨a, b⟩)
              · rw [a]; exact ⟨by omega, hok⟩
              · exact ⟨by omega, b⟩
            · rintro ⟨a, b⟩
              by_cases z : x = i
              · exact Or.inl z
              · exact Or.inr ⟨by omega, b⟩
        induction q with
        | zero =>
          intro hq M2 hF2 h57 hlo hhi hgt
          refine bRe_layThere_66 M2 206 _ _ _ ⟨fun _ => h116 0 hq M2 hF2 h57 hlo hhi hgt (fun z => absurd z (Nat.lt_irrefl 0)), fun z => absurd (nI_le (a := 0) (b := 0) (Nat.le_refl _) (by omega)) z⟩
        | succ q ihq =>
          intro hq M2 hF2 h57 hlo hhi hgt
          have hS2 := hS.fr hF2
          have hl := hlo q (by omega)
          have hx : T.getD q 0 < i := ((hmem _).mp (getD_mem (by omega))).1
          have hx0 := (hc.2.2.2.1 (T.getD q 0) (by omega)).1
          have hPf2 : ∀ p, p < c_n c → m_i M2 (218 + p) 0 = nI (c_F c p 0) := fun p hp => by rw [hF2.1 _ _ (by unfold QTh; omega)]; exact hP.2.2 p 0 hp (by omega)
          have e1 := hPf2 i (by omega)
          have e2 := hPf2 (T.getD q 0) (by omega)
          refine bRe_layThere_66 M2 206 _ _ _ ⟨fun z => absurd z (nI_not_le (a := 0) (by omega) (by omega)), fun _ => ?_⟩
          rw [nI_pred]
          simp (disch := omega) only [hS2.c, hS2.r_fed, hS2.s_fed, hS2.r_rKind, hS2.s_rKind, hS2.r_kind, hS2.s_kind, hS2.r_rNum, hS2.s_rNum, hS2.r_num, hS2.s_num, hS2.r_rLong, hS2.s_rLong, hS2.r_cLong, hS2.s_cLong, hS2.r_stack, hS2.s_stack, hS2.r_names, hS2.s_names, hS2.r_row, hS2.s_row, hS2.r_ruleOf, hS2.s_ruleOf, hS2.r_ways, hS2.s_ways, hS2.r_cWho, hS2.s_cWho, hS2.r_cMin, hS2.s_cMin, hS2.r_cOff, hS2.s_cOff, hS2.r_cTh, hS2.s_cTh, hS2.r_cEnd, hS2.s_cEnd, hS2.r_hds, hS2.s_hds, hS2.r_ends, hS2.s_ends, hS2.r_there, hS2.s_there, hS2.r_offd, hS2.s_offd, hS2.r_had, hS2.s_had, hS2.r_rPer, hS2.s_rPer, hS2.r_rP, hS2.s_rP, hS2.r_per, hS2.s_per, hS2.r_pr, hS2.s_pr, hS2.r_rCode, hS2.s_rCode, hS2.r_rC, hS2.s_rC, hS2.r_code, hS2.s_code, hS2.r_cd, hS2.s_cd, hS2.r_kept, hS2.s_kept, hS2.r_kp, hS2.s_kp, hS2.r_holder, hS2.s_holder, hS2.r_hd, hS2.s_hd, hS2.r_pass, hS2.s_pass, hS2.r_ps, hS2.s_ps, hS2.r_debt, hS2.s_debt, hS2.r_db, hS2.s_db, hS2.r_endBy, hS2.s_endBy, hS2.r_eb, hS2.s_eb, vpT, vpk0, clk0, vpk1, clk1, vpk2, clk2, vpk3, clk3, vpk4, clk4, vpk5, clk5, vpk6, clk6, vpk7, clk7, vpk8, clk8, vpk9, clk9, nI_clamp, nI_1, true_and, hl, e1, e2]
          refine ⟨fun z => h116 (q + 1) hq M2 hF2 h57 hlo hhi hgt (fun _ => by rw [Nat.add_sub_cancel]; exact (nI_leI (by omega) (by omega)).mp z), fun z => ?_⟩
          rw [nI_dec]
          refine ihq (by omega) _ (hF2.tr (FrS.si (Or.inl rfl) _)) (by rw [m_i_si, if_neg (by omega)]; exact h57) (fun j hj => by rw [m_i_si, if_neg (by omega)]; exact hlo j (by omega)) (fun j hj hj2 => ?_) (fun j hj hj2 => ?_)
          · rw [m_i_si]
            by_cases y : j = q
            · rw [if_pos ⟨rfl, by omega⟩, y]
            · rw [if_neg (by omega)]; exact hhi j (by omega) hj2
          · by_cases y : j = q
            · rw [y]; exact fun x => z ((nI_leI (by omega) (by omega)).mpr x)
            · exact hgt j (by omega) hj2
      refine bRe_layThere_7 M' 206 _ _ _ ?_
      simp (disch := omega) only [hS'.c, hS'.r_fed, hS'.s_fed, hS'.r_rKind, hS'.s_rKind, hS'.r_kind, hS'.s_kind, hS'.r_rNum, hS'.s_rNum, hS'.r_num, hS'.s_num, hS'.r_rLong, hS'.s_rLong, hS'.r_cLong, hS'.s_cLong, hS'.r_stack, hS'.s_stack, hS'.r_names, hS'.s_names, hS'.r_row, hS'.s_row, hS'.r_ruleOf, hS'.s_ruleOf, hS'.r_ways, hS'.s_ways, hS'.r_cWho, hS'.s_cWho, hS'.r_cMin, hS'.s_cMin, hS'.r_cOff, hS'.s_cOff, hS'.r_cTh, hS'.s_cTh, hS'.r_cEnd, hS'.s_cEnd, hS'.r_hds, hS'.s_hds, hS'.r_ends, hS'.s_ends, hS'.r_there, hS'.s_there, hS'.r_offd, hS'.s_offd, hS'.r_had, hS'.s_had, hS'.r_rPer, hS'.s_rPer, hS'.r_rP, hS'.s_rP, hS'.r_per, hS'.s_per, hS'.r_pr, hS'.s_pr, hS'.r_rCode, hS'.s_rCode, hS'.r_rC, hS'.s_rC, hS'.r_code, hS'.s_code, hS'.r_cd, hS'.s_cd, hS'.r_kept, hS'.s_kept, hS'.r_kp, hS'.s_kp, hS'.r_holder, hS'.s_holder, hS'.r_hd, hS'.s_hd, hS'.r_pass, hS'.s_pass, hS'.r_ps, hS'.s_ps, hS'.r_debt, hS'.s_debt, hS'.r_db, hS'.s_db, hS'.r_endBy, hS'.s_endBy, hS'.r_eb, hS'.s_eb, vpT, vpk0, clk0, vpk1, clk1, vpk2, clk2, vpk3, clk3, vpk4, clk4, vpk5, clk5, vpk6, clk6, vpk7, clk7, vpk8, clk8, vpk9, clk9, nI_clamp, nI_1, true_and, e11, ef, hP4, ee, hT.1]
      have hb := heo i (by omega)
      refine ⟨fun q => absurd q (nI_not_le (by omega) (by omega)), fun _ => ⟨fun q => h133 _ ?_, fun q => ⟨fun q2 => h133 _ ?_, fun q2 => ⟨fun q3 => h66 ?_ T.length (Nat.le_refl _) M' hF hT.1 hT.2 (fun j a b => absurd b (by omega)) (fun j a b => absurd b (by omega)), fun q3 => h133 _ ?_⟩⟩⟩⟩
      · unfold okN; exact decide_eq_false (fun z => q (hb.mpr z.1))
      · have := (nI_ltI (by omega) (by omega)).mp q2
        unfold okN; exact decide_eq_false (fun z => by omega)
      · have q2' : c_F c i 0 ≤ mm := Nat.le_of_not_lt (fun z => q2 ((nI_ltI (by omega) (by omega)).mpr z))
        rw [nI_sub q2'] at q3
        have := (nI_leI (by omega) (by omega)).mp q3
        unfold okN; exact decide_eq_true ⟨hb.mp q, q2', this⟩
      · have q2' : c_F c i 0 ≤ mm := Nat.le_of_not_lt (fun z => q2 ((nI_ltI (by omega) (by omega)).mpr z))
        rw [nI_sub q2'] at q3
        unfold okN; exact decide_eq_false (fun z => q3 ((nI_leI (by omega) (by omega)).mpr z.2.2))
  refine loop (c_n c) 0 [] _ _ (by omega) (FrS.si (Or.inr ⟨rfl, rfl⟩) _) ⟨by rw [m_i_si, if_pos ⟨rfl, rfl⟩]; rfl, fun j hj => absurd hj (Nat.not_lt_zero j)⟩ List.Pairwise.nil (fun x => ?_)
  constructor
  · intro q; cases q
  · rintro ⟨a, -⟩; exact absurd a (Nat.not_lt_zero x)
theorem ct_passes (M : Mm) (c : Cf) (R : List RU) (out : Nat) (hC : RDc M c R out) (ps : List PR) (hp : RPs M ps) (hlen : ps.length < 28) (g t mm : Nat) (hg : g < c_n c) (ht : t < c_n c) (hm : mm < 1000) (hd : 2 < d)
    (h : ∀ M', FrS (fun a j => QN a j ∨ (a = 206 ∧ j = 41) ∨ a = 281 + ps.length) M M' → RPs M' (ps ++ [(g, t, c_wo c g t (mm / 60), nI mm)]) → Φ (.inl none) M') : Ct l G d mRe_passes bc bs [.ref 206, .int (nI g), .int (nI t), .int (nI mm)] M Φ := by
  obtain ⟨p1, p2, p3⟩ := hp
  have hS := hC.1
  refine Ct.of rfl (Nat.le_of_ble_eq_true rfl) ?_
  refine bRe_passes_0 M 206 _ _ _ ?_
  have e1 : ∀ v, m_i (m_si M (281 + ps.length) 0 v) 206 41 = nI ps.length := fun v => by rw [m_i_si, if_neg (by omega)]; exact p1
  simp (disch := omega) only [hS.c, hS.r_fed, hS.s_fed, hS.r_rKind, hS.s_rKind, hS.r_kind, hS.s_kind, hS.r_rNum, hS.s_rNum, hS.r_num, hS.s_num, hS.r_rLong, hS.s_rLong, hS.r_cLong, hS.s_cLong, hS.r_stack, hS.s_stack, hS.r_names, hS.s_names, hS.r_row, hS.s_row, hS.r_ruleOf, hS.s_ruleOf, hS.r_ways, hS.s_ways, hS.r_cWho, hS.s_cWho, hS.r_cMin, hS.s_cMin, hS.r_cOff, hS.s_cOff, hS.r_cTh, hS.s_cTh, hS.r_cEnd, hS.s_cEnd, hS.r_hds, hS.s_hds, hS.r_ends, hS.s_ends, hS.r_there, hS.s_there, hS.r_offd, hS.s_offd, hS.r_had, hS.s_had, hS.r_rPer, hS.s_rPer, hS.r_rP, hS.s_rP, hS.r_per, hS.s_per, hS.r_pr, hS.s_pr, hS.r_rCode, hS.s_rCode, hS.r_rC, hS.s_rC, hS.r_code, hS.s_code, hS.r_cd, hS.s_cd, hS.r_kept, hS.s_kept, hS.r_kp, hS.s_kp, hS.r_holder, hS.s_holder, hS.r_hd, hS.s_hd, hS.r_pass, hS.s_pass, hS.r_ps, hS.s_ps, hS.r_debt, hS.s_debt, hS.r_db, hS.s_db, hS.r_endBy, hS.s_endBy, hS.r_eb, hS.s_eb, vpT, vpk0, clk0, vpk1, clk1, vpk2, clk2, vpk3, clk3, vpk4, clk4, vpk5, clk5, vpk6, clk6, vpk7, clk7, vpk8, clk8, vpk9, clk9, nI_clamp, nI_1, true_and, p1, e1]
  have hF1 : FrS (fun a j => QN a j ∨ (a = 206 ∧ j = 41) ∨ a = 281 + ps.length) M (m_si (m_si M (281 + ps.length) 0 (nI g)) (281 + ps.length) 1 (nI t)) := (FrS.si (Or.inr (Or.inr rfl)) _).tr (FrS.si (Or.inr (Or.inr rfl)) _)
  have a0 : m_i (m_si (m_si M (281 + ps.length) 0 (nI g)) (281 + ps.length) 1 (nI t)) (281 + ps.length) 0 = nI g := by rw [m_i_si, if_neg (by omega), m_i_si, if_pos ⟨rfl, rfl⟩]
  have a1 : m_i (m_si (m_si M (281 + ps.length) 0 (nI g)) (281 + ps.length) 1 (nI t)) (281 + ps.length) 1 = nI t := by rw [m_i_si, if_pos ⟨rfl, rfl⟩]
  have a41 : m_i (m_si (m_si M (281 + ps.length) 0 (nI g)) (281 + ps.length) 1 (nI t)) 206 41 = nI ps.length := by rw [m_i_si, if_neg (by omega), m_i_si, if_neg (by omega)]; exact p1
  have ap : ∀ i, i < ps.length → ∀ j, m_i (m_si (m_si M (281 + ps.length) 0 (nI g)) (281 + ps.length) 1 (nI t)) (281 + i) j = m_i M (281 + i) j := fun i hi j => by rw [m_i_si, if_neg (by omega), m_i_si, if_neg (by omega)]
  generalize m_si (m_si M (281 + ps.length) 0 (nI g)) (281 + ps.length) 1 (nI t) = M1 at *
  have hC1 := hC.fr (hF1.mono (fun a j h => by unfold QN at h; unfold QD; omega))
  have hS1 := hC1.1
  refine bRe_passes_24 M1 206 _ _ _ ?_
  simp (disch := omega) only [hS1.c, hS1.r_fed, hS1.s_fed, hS1.r_rKind, hS1.s_rKind, hS1.r_kind, hS1.s_kind, hS1.r_rNum, hS1.s_rNum, hS1.r_num, hS1.s_num, hS1.r_rLong, hS1.s_rLong, hS1.r_cLong, hS1.s_cLong, hS1.r_stack, hS1.s_stack, hS1.r_names, hS1.s_names, hS1.r_row, hS1.s_row, hS1.r_ruleOf, hS1.s_ruleOf, hS1.r_ways, hS1.s_ways, hS1.r_cWho, hS1.s_cWho, hS1.r_cMin, hS1.s_cMin, hS1.r_cOff, hS1.s_cOff, hS1.r_cTh, hS1.s_cTh, hS1.r_cEnd, hS1.s_cEnd, hS1.r_hds, hS1.s_hds, hS1.r_ends, hS1.s_ends, hS1.r_there, hS1.s_there, hS1.r_offd, hS1.s_offd, hS1.r_had, hS1.s_had, hS1.r_rPer, hS1.s_rPer, hS1.r_rP, hS1.s_rP, hS1.r_per, hS1.s_per, hS1.r_pr, hS1.s_pr, hS1.r_rCode, hS1.s_rCode, hS1.r_rC, hS1.s_rC, hS1.r_code, hS1.s_code, hS1.r_cd, hS1.s_cd, hS1.r_kept, hS1.s_kept, hS1.r_kp, hS1.s_kp, hS1.r_holder, hS1.s_holder, hS1.r_hd, hS1.s_hd, hS1.r_pass, hS1.s_pass, hS1.r_ps, hS1.s_ps, hS1.r_debt, hS1.s_debt, hS1.r_db, hS1.s_db, hS1.r_endBy, hS1.s_endBy, hS1.r_eb, hS1.s_eb, vpT, vpk0, clk0, vpk1, clk1, vpk2, clk2, vpk3, clk3, vpk4, clk4, vpk5, clk5, vpk6, clk6, vpk7, clk7, vpk8, clk8, vpk9, clk9, nI_clamp, nI_1, true_and, a41]
  refine CallVC.cps0 (by omega) ?_
  rw [nI_60 hm]
  refine ct_worthOf M1 c R out hC1 g t (mm / 60) hg ht (by omega) (fun M2 hF2 => ?_)
  have hS2 := hS1.fr hF2
  have b0 : ∀ i, i ≤ ps.length → ∀ j, m_i M2 (281 + i) j = m_i M1 (281 + i) j := fun i hi j => hF2.1 _ _ (by unfold QN; omega)
  have b41 : m_i M2 206 41 = nI ps.length := by rw [hF2.1 _ _ (by unfold QN; omega)]; exact a41
  refine bRe_passes_44 M2 206 _ _ _ _ _ _ ?_
  have e2 : ∀ v, m_i (m_si M2 (281 + ps.length) 2 v) 206 41 = nI ps.length := fun v => by rw [m_i_si, if_neg (by omega)]; exact b41
  simp (disch := omega) only [hS2.c, hS2.r_fed, hS2.s_fed, hS2.r_rKind, hS2.s_rKind, hS2.r_kind, hS2.s_kind, hS2.r_rNum, hS2.s_rNum, hS2.r_num, hS2.s_num, hS2.r_rLong, hS2.s_rLong, hS2.r_cLong, hS2.s_cLong, hS2.r_stack, hS2.s_stack, hS2.r_names, hS2.s_names, hS2.r_row, hS2.s_row, hS2.r_ruleOf, hS2.s_ruleOf, hS2.r_ways, hS2.s_ways, hS2.r_cWho, hS2.s_cWho, hS2.r_cMin, hS2.s_cMin, hS2.r_cOff, hS2.s_cOff, hS2.r_cTh, hS2.s_cTh, hS2.r_cEnd, hS2.s_cEnd, hS2.r_hds, hS2.s_hds, hS2.r_ends, hS2.s_ends, hS2.r_there, hS2.s_there, hS2.r_offd, hS2.s_offd, hS2.r_had, hS2.s_had, hS2.r_rPer, hS2.s_rPer, hS2.r_rP, hS2.s_rP, hS2.r_per, hS2.s_per, hS2.r_pr, hS2.s_pr, hS2.r_rCode, hS2.s_rCode, hS2.r_rC, hS2.s_rC, hS2.r_code, hS2.s_code, hS2.r_cd, hS2.s_cd, hS2.r_kept, hS2.s_kept, hS2.r_kp, hS2.s_kp, hS2.r_holder, hS2.s_holder, hS2.r_hd, hS2.s_hd, hS2.r_pass, hS2.s_pass, hS2.r_ps, hS2.s_ps, hS2.r_debt, hS2.s_debt, hS2.r_db, hS2.s_db, hS2.r_endBy, hS2.s_endBy, hS2.r_eb, hS2.s_eb, vpT, vpk0, clk0, vpk1, clk1, vpk2, clk2, vpk3, clk3, vpk4, clk4, vpk5, clk5, vpk6, clk6, vpk7, clk7, vpk8, clk8, vpk9, clk9, nI_clamp, nI_1, true_and, b41, e2]
  refine bRe_passes_57 _ 206 _ _ _ ⟨hS2.c, ?_⟩
  rw [m_i_si, if_neg (by omega), m_i_si, if_neg (by omega), b41, nI_1]
  refine h _ ((((hF1.tr (hF2.mono (fun a j h => Or.inl h))).tr (FrS.si (Or.inr (Or.inr rfl)) _)).tr (FrS.si (Or.inr (Or.inr rfl)) _)).tr (FrS.si (Or.inr (Or.inl ⟨rfl, rfl⟩)) _)) ⟨?_, ?_, fun i hi => ?_⟩
  · rw [m_i_si, if_pos ⟨rfl, rfl⟩, List.length_append]; rfl
  · rw [List.length_append]; show _ + 1 ≤ _; omega
  · rw [List.length_append] at hi
    replace hi : i < ps.length + 1 := hi
    unfold p_g p_t p_w p_m
    rw [getD_app]
    by_cases z : i < ps.length
    · rw [if_pos z]
      simp only [m_i_si]
      rw [if_neg (by omega), if_neg (by omega), if_neg (by omega), if_neg (by omega), if_neg (by omega), if_neg (by omega), if_neg (by omega), if_neg (by omega), if_neg (by omega), if_neg (by omega), if_neg (by omega), if_neg (by omega), b0 i (by omega), b0 i (by omega), b0 i (by omega), b0 i (by omega), ap i z, ap i z, ap i z, ap i z]
      exact p3 i z
    · obtain rfl : i = ps.length := by omega
      rw [if_neg z, if_pos rfl]
      refine ⟨?_, ?_, ?_, ?_⟩
      · rw [m_i_si, if_neg (by omega), m_i_si, if_neg (by omega), m_i_si, if_neg (by omega), b0 _ (Nat.le_refl _), a0]
      · rw [m_i_si, if_neg (by omega), m_i_si, if_neg (by omega), m_i_si, if_neg (by omega), b0 _ (Nat.le_refl _), a1]
      · rw [m_i_si, if_neg (by omega), m_i_si, if_neg (by omega), m_i_si, if_pos ⟨rfl, rfl⟩]
      · rw [m_i_si, if_neg (by omega), m_i_si, if_pos ⟨rfl, rfl⟩]
theorem ct_dueAt (M : Mm) (c : Cf) (R : List RU) (out : Nat) (hC : RDc M c R out) (ps : List PR) (hp : RPs M ps) (hix : ∀ i, i < ps.length → p_g ps i < 8 ∧ p_t ps i < 8 ∧ p_g ps i ≠ p_t ps i) (L : List Nat) (hL : LOK c L) (hT : THr M L) (mm : Nat) (hc : cfOK c) (hd : 1 < d)
    (h : Φ (.inl (some (.int (oN (if c_nu c 2 = -1 then none else dueX (balL ps mm (c_nu c 7)) (c_nu c 2) L L.length))))) M) : Ct l G d mRe_dueAt bc bs [.ref 206, .int (nI mm)] M Φ := by
  obtain ⟨hS, hP, hR, -, hLr, hnu, -⟩ := id hC
  have n8 := hc.1
  obtain ⟨l1, l8, lp, -⟩ := id hL
  refine Ct.of rfl (Nat.le_of_ble_eq_true rfl) ?_
  refine bRe_dueAt_0 M 206 _ ⟨hS.c, CallVC.cps0 (by omega) ?_⟩
  refine ct_numberOf M hS R hR out hLr 0 (by omega) ?_
  rw [← hnu 2]
  refine bRe_dueAt_6 M 206 _ _ _ _ _ ?_
  by_cases q : c_nu c 2 = -1
  · rw [if_pos q] at h
    refine bRe_dueAt_12 M 206 _ _ _ _ ⟨hS.c, fun _ => h, fun _ => ⟨fun _ => h, fun z => absurd q z⟩⟩
  rw [if_neg q] at h
  generalize hB : balL ps mm (c_nu c 7) = B at h
  have loop : ∀ e i, i + e = L.length → Ev l G d mRe_dueAt 12 [.ref 206, .int (nI mm), .int (c_nu c 2), .int (oN (dueX B (c_nu c 2) L i)), .int (nI i)] [] M bc bs Φ := by
    intro e
    induction e with
    | zero =>
      intro i hi
      obtain rfl : i = L.length := by omega
      refine bRe_dueAt_12 M 206 _ _ _ _ ⟨hS.c, fun _ => h, fun z => absurd ?_ z⟩
      rw [hT.1]; exact nI_le (Nat.le_refl _) (by omega)
    | succ e ih =>
      intro i hi
      have hnext : ∀ v, v = oN (dueX B (c_nu c 2) L (i + 1)) → Ev l G d mRe_dueAt 76 [.ref 206, .int (nI mm), .int (c_nu c 2), .int v, .int (nI i)] [] M bc bs Φ := fun v ev => by
        refine bRe_dueAt_76 M 206 _ _ _ _ ?_
        rw [ev, nI_1]
        exact ih (i + 1) (by omega)
      have htake : ∀ v, dueX B (c_nu c 2) L (i + 1) = some i → Ev l G d mRe_dueAt 73 [.ref 206, .int (nI mm), .int (c_nu c 2), .int v, .int (nI i)] [] M bc bs Φ := fun v ev => bRe_dueAt_73 M 206 _ _ _ _ (hnext _ (by rw [ev]; rfl))
      have ei := hT.2 i (by omega)
      have hpi := lp i (by omega)
      refine bRe_dueAt_12 M 206 _ _ _ _ ⟨hS.c, fun z => absurd z ?_, fun _ => ⟨fun z => absurd z q, fun _ => ?_⟩⟩
      · rw [hT.1]; exact nI_not_le (by omega) (by omega)
      · simp (disch := omega) only [hS.c, hS.r_fed, hS.s_fed, hS.r_rKind, hS.s_rKind, hS.r_kind, hS.s_kind, hS.r_rNum, hS.s_rNum, hS.r_num, hS.s_num, hS.r_rLong, hS.s_rLong, hS.r_cLong, hS.s_cLong, hS.r_stack, hS.s_stack, hS.r_names, hS.s_names, hS.r_row, hS.s_row, hS.r_ruleOf, hS.s_ruleOf, hS.r_ways, hS.s_ways, hS.r_cWho, hS.s_cWho, hS.r_cMin, hS.s_cMin, hS.r_cOff, hS.s_cOff, hS.r_cTh, hS.s_cTh, hS.r_cEnd, hS.s_cEnd, hS.r_hds, hS.s_hds, hS.r_ends, hS.s_ends, hS.r_there, hS.s_there, hS.r_offd, hS.s_offd, hS.r_had, hS.s_had, hS.r_rPer, hS.s_rPer, hS.r_rP, hS.s_rP, hS.r_per, hS.s_per, hS.r_pr, hS.s_pr, hS.r_rCode, hS.s_rCode, hS.r_rC, hS.s_rC, hS.r_code, hS.s_code, hS.r_cd, hS.s_cd, hS.r_kept, hS.s_kept, hS.r_kp, hS.s_kp, hS.r_holder, hS.s_holder, hS.r_hd, hS.s_hd, hS.r_pass, hS.s_pass, hS.r_ps, hS.s_ps, hS.r_debt, hS.s_debt, hS.r_db, hS.s_db, hS.r_endBy, hS.s_endBy, hS.r_eb, hS.s_eb, vpT, vpk0, clk0, vpk1, clk1, vpk2, clk2, vpk3, clk3, vpk4, clk4, vpk5, clk5, vpk6, clk6, vpk7, clk7, vpk8, clk8, vpk9, clk9, nI_clamp, nI_1, true_and, ei]
        refine CallVC.cps0 (by omega) (ct_balanceOf M c R out hC ps hp hix (L.getD i 0) mm (by omega) (by omega) ?_)
        rw [hB]
        refine bRe_dueAt_38 M 206 _ _ _ _ _ ⟨fun z => hnext _ ?_, fun z => ⟨fun z2 => htake _ ?_, fun z2 => ?_⟩⟩
        · rw [show dueX B (c_nu c 2) L (i + 1) = dueX B (c_nu c 2) L i from if_pos z]
        · cases hq : dueX B (c_nu c 2) L i with
          | none =>
            show (if _ then _ else _) = _
            rw [if_neg z, hq]
          | some b =>
            have := dueX_lt i b hq
            rw [hq] at z2
            exact absurd z2 (nI_neg (by omega))
        · cases hq : dueX B (c_nu c 2) L i with
          | none => rw [hq] at z2; exact absurd rfl z2
          | some b =>
            have hbi := dueX_lt i b hq
            have eb := hT.2 b (by omega)
            have hpb := lp b (by omega)
            simp (disch := omega) only [hS.c, hS.r_fed, hS.s_fed, hS.r_rKind, hS.s_rKind, hS.r_kind, hS.s_kind, hS.r_rNum, hS.s_rNum, hS.r_num, hS.s_num, hS.r_rLong, hS.s_rLong, hS.r_cLong, hS.s_cLong, hS.r_stack, hS.s_stack, hS.r_names, hS.s_names, hS.r_row, hS.s_row, hS.r_ruleOf, hS.s_ruleOf, hS.r_ways, hS.s_ways, hS.r_cWho, hS.s_cWho, hS.r_cMin, hS.s_cMin, hS.r_cOff, hS.s_cOff, hS.r_cTh, hS.s_cTh, hS.r_cEnd, hS.s_cEnd, hS.r_hds, hS.s_hds, hS.r_ends, hS.s_ends, hS.r_there, hS.s_there, hS.r_offd, hS.s_offd, hS.r_had, hS.s_had, hS.r_rPer, hS.s_rPer, hS.r_rP, hS.s_rP, hS.r_per, hS.s_per, hS.r_pr, hS.s_pr, hS.r_rCode, hS.s_rCode, hS.r_rC, hS.s_rC, hS.r_code, hS.s_code, hS.r_cd, hS.s_cd, hS.r_kept, hS.s_kept, hS.r_kp, hS.s_kp, hS.r_holder, hS.s_holder, hS.r_hd, hS.s_hd, hS.r_pass, hS.s_pass, hS.r_ps, hS.s_ps, hS.r_debt, hS.s_debt, hS.r_db, hS.s_db, hS.r_endBy, hS.s_endBy, hS.r_eb, hS.s_eb, vpT, vpk0, clk0, vpk1, clk1, vpk2, clk2, vpk3, clk3, vpk4, clk4, vpk5, clk5, vpk6, clk6, vpk7, clk7, vpk8, clk8, vpk9, clk9, nI_clamp, nI_1, true_and, ei]
            refine CallVC.cps0 (by omega) (ct_balanceOf M c R out hC ps hp hix (L.getD i 0) mm (by omega) (by omega) ?_)
            rw [hB]
            refine bRe_dueAt_59 M 206 _ _ _ _ _ ?_
            show _ ∧ _ ∧ vp_in (nI b) _ ∧ CallVC l G d mRe_dueAt 70 _ _ _ [.ref 206, .int (m_i M _ (nI b).toNatClampNeg), .int (nI mm)] M bc bs Φ
            simp (disch := omega) only [hS.c, hS.r_fed, hS.s_fed, hS.r_rKind, hS.s_rKind, hS.r_kind, hS.s_kind, hS.r_rNum, hS.s_rNum, hS.r_num, hS.s_num, hS.r_rLong, hS.s_rLong, hS.r_cLong, hS.s_cLong, hS.r_stack, hS.s_stack, hS.r_names, hS.s_names, hS.r_row, hS.s_row, hS.r_ruleOf, hS.s_ruleOf, hS.r_ways, hS.s_ways, hS.r_cWho, hS.s_cWho, hS.r_cMin, hS.s_cMin, hS.r_cOff, hS.s_cOff, hS.r_cTh, hS.s_cTh, hS.r_cEnd, hS.s_cEnd, hS.r_hds, hS.s_hds, hS.r_ends, hS.s_ends, hS.r_there, hS.s_there, hS.r_offd, hS.s_offd, hS.r_had, hS.s_had, hS.r_rPer, hS.s_rPer, hS.r_rP, hS.s_rP, hS.r_per, hS.s_per, hS.r_pr, hS.s_pr, hS.r_rCode, hS.s_rCode, hS.r_rC, hS.s_rC, hS.r_code, hS.s_code, hS.r_cd, hS.s_cd, hS.r_kept, hS.s_kept, hS.r_kp, hS.s_kp, hS.r_holder, hS.s_holder, hS.r_hd, hS.s_hd, hS.r_pass, hS.s_pass, hS.r_ps, hS.s_ps, hS.r_debt, hS.s_debt, hS.r_db, hS.s_db, hS.r_endBy, hS.s_endBy, hS.r_eb, hS.s_eb, vpT, vpk0, clk0, vpk1, clk1, vpk2, clk2, vpk3, clk3, vpk4, clk4, vpk5, clk5, vpk6, clk6, vpk7, clk7, vpk8, clk8, vpk9, clk9, nI_clamp, nI_1, true_and, eb]
            refine CallVC.cps0 (by omega) (ct_balanceOf M c R out hC ps hp hix (L.getD b 0) mm (by omega) (by omega) ?_)
            rw [hB]
            refine bRe_dueAt_70 M 206 _ _ _ _ _ _ ⟨fun z3 => hnext _ ?_, fun z3 => htake _ ?_⟩
            · show _ = oN (if _ then _ else _)
              rw [if_neg z, hq]
              show _ = oN (if _ then _ else _)
              rw [if_pos z3]
            · show (if _ then _ else _) = _
              rw [if_neg z, hq]
              show (if _ then _ else _) = _
              rw [if_neg z3]
  exact loop L.length 0 (by omega)
end SR3
