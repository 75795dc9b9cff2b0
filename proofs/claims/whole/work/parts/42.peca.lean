/-! ===== People (what is read of them), Call ===== -/
def PEok (M : Mm) (P : Nat) : Prop := (m_sh M P).1 = 6 ∧ m_r M P 0 = P + 1 ∧ m_r M P 1 = P + 2 ∧ m_sh M (P + 1) = (20, 64) ∧ m_sh M (P + 2) = (20, 8)
theorem PEok.of {M M' : Mm} {P : Nat} (h : PEok M P) (hr : ∀ a j, m_r M' a j = m_r M a j) (hs : ∀ a, m_sh M' a = m_sh M a) : PEok M' P := by
  unfold PEok
  rw [hs, hs, hs, hr, hr]
  exact h
/-- n PERSONS with the facts f, who stand by minutes as by -/
def PErep (M : Mm) (P n : Nat) (f : Nat → Nat → Int32) (by_ : Nat → Nat) : Prop := m_i M P 2 = nI n ∧ n ≤ 8 ∧ (∀ p w, p < n → w < 8 → m_i M (P + 1) (p * 8 + w) = f p w) ∧ ∀ i, i < n → m_i M (P + 2) i = nI (by_ i) ∧ by_ i < n
theorem PErep.fr {M M' : Mm} {P n : Nat} {f : Nat → Nat → Int32} {by_ : Nat → Nat} {Q : Nat → Prop} (h : PErep M P n f by_) (hF : Fr Q M M') (h0 : ¬ Q P) (h1 : ¬ Q (P + 1)) (h2 : ¬ Q (P + 2)) : PErep M' P n f by_ :=
  ⟨by rw [hF.1 P h0]; exact h.1, h.2.1, fun p w hp hw => by rw [hF.1 _ h1]; exact h.2.2.1 p w hp hw, fun i hi => by rw [hF.1 _ h2]; exact h.2.2.2 i hi⟩
def CAok (M : Mm) (C : Nat) : Prop := (m_sh M C).1 = 0 ∧ m_r M C 0 = C + 1 ∧ m_sh M (C + 1) = (20, 8)
theorem CAok.of {M M' : Mm} {C : Nat} (h : CAok M C) (hr : ∀ a j, m_r M' a j = m_r M a j) (hs : ∀ a, m_sh M' a = m_sh M a) : CAok M' C := by
  unfold CAok
  rw [hs, hs, hr]
  exact h
/-- whether one stands there at a minute -/
abbrev okT (f : Nat → Nat → Int32) (minute served : Int32) (p : Nat) : Prop := ((served >>> (nI p &&& 31)) &&& 1) = 0 ∧ ¬ (minute - f p 0) < 0 ∧ ¬ f p 4 < minute - f p 0
def thL (f : Nat → Nat → Int32) (by_ : Nat → Nat) (minute served : Int32) : Nat → List Nat
  | 0 => []
  | i + 1 => if okT f minute served (by_ i) then thL f by_ minute served i ++ [by_ i] else thL f by_ minute served i
def thB (f : Nat → Nat → Int32) (by_ : Nat → Nat) (minute served : Int32) : Nat → Int32
  | 0 => 0
  | i + 1 => if okT f minute served (by_ i) then thB f by_ minute served i ||| (1 <<< (nI (by_ i) &&& 31)) else thB f by_ minute served i
theorem thL_len (f : Nat → Nat → Int32) (by_ : Nat → Nat) (minute served : Int32) : ∀ i, (thL f by_ minute served i).length ≤ i
  | 0 => Nat.le_refl _
  | i + 1 => by
    have := thL_len f by_ minute served i
    unfold thL
    split
    · rw [List.length_append, List.length_singleton]; omega
    · omega
theorem ix8 {p w : Nat} (hp : p < 8) (hw : w < 8) : nI p * 8 + nI w = nI (p * 8 + w) ∧ vp_in (nI p * 8 + nI w) 64 ∧ (nI p * 8 + nI w).toNatClampNeg = p * 8 + w := by
  have e : nI p * 8 + nI w = nI (p * 8 + w) := by
    rw [show (8 : Int32) = nI 8 from rfl, pk_mul, nI_add]
  rw [e]
  exact ⟨rfl, vp_in_nI (by omega) (by omega), nI_clamp (by omega)⟩
section SPC
variable {l : Launch} {G : Gx} {d : Nat} {bc bs : Nat} {Φ : OutV → Mm → Prop}
theorem ct_fact (M : Mm) (P p w : Nat) (hP : PEok M P) (hp : p < 8) (hw : w < 8) (h : Φ (.inl (some (.int (m_i M (P + 1) (p * 8 + w))))) M) : Ct l G d mPe_fact bc bs [.ref P, .int (nI p), .int (nI w)] M Φ := by
  obtain ⟨p0, p1, p2, s1, s2⟩ := hP
  obtain ⟨-, e2, e3⟩ := ix8 hp hw
  refine Ct.of rfl (Nat.le_of_ble_eq_true rfl) ?_
  refine bPe_fact_0 M P _ _ ⟨p0, by rw [p1, s1], by rw [p1, s1]; exact e2, ?_⟩
  rw [p1, e3]
  exact h
theorem ct_setFact (M : Mm) (P p w : Nat) (v : Int32) (hP : PEok M P) (hp : p < 8) (hw : w < 8) (h : Φ (.inl none) (m_si M (P + 1) (p * 8 + w) v)) : Ct l G d mPe_setFact bc bs [.ref P, .int (nI p), .int (nI w), .int v] M Φ := by
  obtain ⟨p0, p1, p2, s1, s2⟩ := hP
  obtain ⟨-, e2, e3⟩ := ix8 hp hw
  refine Ct.of rfl (Nat.le_of_ble_eq_true rfl) ?_
  refine bPe_setFact_0 M P _ _ _ ⟨p0, by rw [p1, s1], by rw [p1, s1]; exact e2, ?_⟩
  rw [p1, e3]
  exact h
/-- the minute at which the next one comes, of those from the i-th on -/
def nextS (f : Nat → Nat → Int32) (by_ : Nat → Nat) (minute : Int32) (i : Nat) : Nat → Int32
  | 0 => -1
  | k + 1 => if f (by_ i) 0 ≤ minute then nextS f by_ minute (i + 1) k else f (by_ i) 0
theorem ct_nextMinute (M : Mm) (P n : Nat) (f : Nat → Nat → Int32) (by_ : Nat → Nat) (hP : PEok M P) (hR : PErep M P n f by_) (minute : Int32) (hd : 0 < d) (h : Φ (.inl (some (.int (nextS f by_ minute 0 n)))) M) : Ct l G d mPe_nextMinute bc bs [.ref P, .int minute] M Φ := by
  obtain ⟨p0, p1, p2, s1, s2⟩ := id hP
  obtain ⟨r0, r1, r2, r3⟩ := id hR
  refine Ct.of rfl (Nat.le_of_ble_eq_true rfl) ?_
  refine bPe_nextMinute_0 M P _ ?_
  have loop : ∀ k i (u : Value), i + k = n → Φ (.inl (some (.int (nextS f by_ minute i k)))) M → Ev l G d mPe_nextMinute 2 [.ref P, .int minute, .int (nI i), u] [] M bc bs Φ := by
    intro k
    induction k with
    | zero =>
      intro i u hi hq
      exact bPe_nextMinute_2 M P _ _ u ⟨p0, fun _ => hq, fun c => absurd (by rw [r0]; exact nI_le (by omega) (by omega)) c⟩
    | succ k ih =>
      intro i u hi hq
      obtain ⟨b1, b2⟩ := r3 i (by omega)
      refine bPe_nextMinute_2 M P _ _ u ⟨p0, fun c => absurd c (by rw [r0]; exact nI_not_le (by omega) (by omega)), fun _ => ⟨by rw [p2, s2], by rw [p2, s2]; exact vp_in_nI (by omega) (by omega), CallVC.cps0 hd ?_⟩⟩
      rw [p2, nI_clamp (by omega), b1]
      refine ct_fact M P (by_ i) 0 hP (by omega) (by omega) ?_
      rw [r2 _ 0 b2 (by omega)]
      refine bPe_nextMinute_21 M P _ _ u _ ⟨fun c => ?_, fun c => ?_⟩
      · rw [nI_1]
        refine ih (i + 1) _ (by omega) ?_
        have e : nextS f by_ minute i (k + 1) = nextS f by_ minute (i + 1) k := if_pos c
        rw [e] at hq
        exact hq
      · have e : nextS f by_ minute i (k + 1) = f (by_ i) 0 := if_neg c
        rw [e] at hq
        exact hq
  exact loop n 0 _ (by omega) h
/-- what gather leaves in a CALL of which i persons were looked at -/
def gaS (M M' : Mm) (C : Nat) (minute : Int32) (L : List Nat) (b : Int32) : Prop := Fr (fun a => a = C ∨ a = C + 1) M M' ∧ m_i M' C 1 = nI L.length ∧ (∀ j, j < L.length → m_i M' (C + 1) j = nI (L.getD j 0)) ∧ m_i M' C 2 = b ∧ m_i M' C 3 = minute ∧ m_i M' C 4 = 0 ∧ m_i M' C 5 = -1 ∧ m_i M' C 6 = -1 ∧ m_i M' C 7 = 0
theorem ct_gather (M : Mm) (C P n : Nat) (f : Nat → Nat → Int32) (by_ : Nat → Nat) (hC : CAok M C) (hP : PEok M P) (hR : PErep M P n f by_) (hPC : P + 2 < C) (minute served : Int32) (hd : 0 < d)
    (h : ∀ M', gaS M M' C minute (thL f by_ minute served n) (thB f by_ minute served n) → Φ (.inl none) M') : Ct l G d mCa_gather bc bs [.ref C, .ref P, .int minute, .int served] M Φ := by
  obtain ⟨c0, c1, c2⟩ := id hC
  refine Ct.of rfl (Nat.le_of_ble_eq_true rfl) ?_
  refine bCa_gather_0 M C P _ _ ⟨c0, ?_⟩
  refine bCa_gather_10 _ C P _ _ _ _ _ ⟨c0, ?_⟩
  refine bCa_gather_20 _ C P _ _ _ _ _ ⟨c0, ?_⟩
  refine bCa_gather_30 _ C P _ _ _ _ _ ⟨c0, ?_⟩
  have loop : ∀ k i (M' : Mm) (u v : Value), i + k = n → gaS M M' C minute (thL f by_ minute served i) (thB f by_ minute served i) → Ev l G d mCa_gather 38 [.ref C, .ref P, .int minute, .int served, .int (nI i), u, v] [] M' bc bs Φ := by
    intro k
    induction k with
    | zero =>
      intro i M' u v hi hg
      have : i = n := by omega
      subst this
      have hR' := hR.fr hg.1 (by omega) (by omega) (by omega)
      have hP' := hP.of hg.1.2.1 hg.1.2.2.2.1
      have := hR.2.1
      exact bCa_gather_38 M' C P _ _ _ u v ⟨hP'.1, fun _ => h M' hg, fun c => absurd (by rw [hR'.1]; exact nI_le (Nat.le_refl _) (by omega)) c⟩
    | succ k ih =>
      intro i M' u v hi hg
      have hR' := hR.fr hg.1 (by omega) (by omega) (by omega)
      have hP' := hP.of hg.1.2.1 hg.1.2.2.2.1
      have hC' := hC.of hg.1.2.1 hg.1.2.2.2.1
      obtain ⟨p0, p1, p2, s1, s2⟩ := id hP'
      obtain ⟨c0', c1', c2'⟩ := id hC'
      obtain ⟨r0, r1, r2, r3⟩ := id hR'
      obtain ⟨b1, b2⟩ := r3 i (by omega)
      have hskip : ¬ okT f minute served (by_ i) → ∀ w : Int32, Ev l G d mCa_gather 127 [.ref C, .ref P, .int minute, .int served, .int (nI i), .int (nI (by_ i)), .int w] [] M' bc bs Φ := fun c w => by
        refine bCa_gather_127 M' C P _ _ _ _ _ ?_
        rw [nI_1]
        refine ih (i + 1) M' _ _ (by omega) ?_
        have e1 : thL f by_ minute served (i + 1) = thL f by_ minute served i := if_neg c
        have e2 : thB f by_ minute served (i + 1) = thB f by_ minute served i := if_neg c
        rw [e1, e2]
        exact hg
      refine bCa_gather_38 M' C P _ _ _ u v ⟨p0, fun c => absurd c (by rw [r0]; exact nI_not_le (by omega) (by omega)), fun _ => ⟨by rw [p2, s2], by rw [p2, s2]; exact vp_in_nI (by omega) (by omega), CallVC.cps0 hd ?_⟩⟩
      rw [p2, nI_clamp (by omega), b1]
      refine ct_fact M' P (by_ i) 0 hP' (by omega) (by omega) ?_
      rw [r2 _ 0 b2 (by omega)]
      refine bCa_gather_64 M' C P _ _ _ _ v _ _ ⟨fun c => hskip (fun q => c q.1) _, fun a1 => ⟨fun c => hskip (fun q => q.2.1 c) _, fun a2 => ⟨p0, CallVC.cps0 hd ?_⟩⟩⟩
      refine ct_fact M' P (by_ i) 4 hP' (by omega) (by omega) ?_
      rw [r2 _ 4 b2 (by omega)]
      refine bCa_gather_90 M' C P _ _ _ _ _ _ _ ⟨fun c => hskip (fun q => q.2.2 c) _, fun a3 => ?_⟩
      have hok : okT f minute served (by_ i) := ⟨a1, a2, a3⟩
      have hlen := thL_len f by_ minute served i
      obtain ⟨gF, g1, g2, g3, g4, g5, g6, g7, g8⟩ := id hg
      have hcl : (nI (thL f by_ minute served i).length).toNatClampNeg = (thL f by_ minute served i).length := nI_clamp (by omega)
      refine ⟨c0', by rw [c1', c2'], by rw [c1', c2', g1]; exact vp_in_nI (by omega) (by omega), ?_⟩
      rw [c1', g1, hcl]
      have e1 : m_i (m_si M' (C + 1) (thL f by_ minute served i).length (nI (by_ i))) C 1 = nI (thL f by_ minute served i).length := by rw [m_i_si, if_neg (by omega)]; exact g1
      rw [e1, nI_1]
      refine bCa_gather_114 _ C P _ _ _ _ _ ⟨c0', ?_⟩
      refine bCa_gather_127 _ C P _ _ _ _ _ ?_
      rw [nI_1]
      refine ih (i + 1) _ _ _ (by omega) ?_
      have e5 : thL f by_ minute served (i + 1) = thL f by_ minute served i ++ [by_ i] := if_pos hok
      have e6 : thB f by_ minute served (i + 1) = thB f by_ minute served i ||| (1 <<< (nI (by_ i) &&& 31)) := if_pos hok
      rw [e5, e6]
      have hF3 : Fr (fun a => a = C ∨ a = C + 1) M' (m_si (m_si (m_si M' (C + 1) (thL f by_ minute served i).length (nI (by_ i))) C 1 (nI ((thL f by_ minute served i).length + 1))) C 2 (m_i (m_si (m_si M' (C + 1) (thL f by_ minute served i).length (nI (by_ i))) C 1 (nI ((thL f by_ minute served i).length + 1))) C 2 ||| (1 <<< (nI (by_ i) &&& 31)))) :=
        ((Fr.si (Or.inr rfl) _ _).tr (Fr.si (Or.inl rfl) _ _)).tr (Fr.si (Or.inl rfl) _ _)
      refine ⟨gF.tr hF3, ?_, fun j hj => ?_, ?_, ?_, ?_, ?_, ?_, ?_⟩
      · simp [m_i_si]
      · rw [List.length_append, List.length_singleton] at hj
        rw [m_i_si, if_neg (by omega), m_i_si, if_neg (by omega), m_i_si]
        by_cases h1 : j = (thL f by_ minute served i).length
        · rw [if_pos ⟨rfl, h1⟩, h1, List.getD_eq_getElem?_getD, List.getElem?_append_right (Nat.le_refl _), Nat.sub_self]
          rfl
        · rw [if_neg (fun q => h1 q.2), g2 j (by omega), List.getD_eq_getElem?_getD, List.getD_eq_getElem?_getD, List.getElem?_append_left (by omega)]
      · simp [m_i_si, g3]
      · simp [m_i_si, g4]
      · simp [m_i_si, g5]
      · simp [m_i_si, g6]
      · simp [m_i_si, g7]
      · simp [m_i_si, g8]
  refine loop n 0 _ _ _ (by omega) ⟨?_, ?_, fun j hj => absurd hj (Nat.not_lt_zero j), ?_, ?_, ?_, ?_, ?_, ?_⟩
  · exact (((((((Fr.si (Or.inl rfl) _ _).tr (Fr.si (Or.inl rfl) _ _)).tr (Fr.si (Or.inl rfl) _ _)).tr (Fr.si (Or.inl rfl) _ _)).tr (Fr.si (Or.inl rfl) _ _)).tr (Fr.si (Or.inl rfl) _ _)).tr (Fr.si (Or.inl rfl) _ _))
  all_goals simp [m_i_si, thL, thB, nI]
end SPC
