/-! ===== Law: what a formula comes to ===== -/
def joinedS (s a b : Int32) : Int32 := if s = -16 then a &&& b else if s = -15 then (if a = b then 1 else 0) else if s = -14 then (if a ≤ b then 0 else 1) else if s = -13 then (if b ≤ a then 0 else 1) else if s = -12 then (if b = 0 then 0 else a / b) else if s = -11 then a * b else if s = -10 then a - b else if s = -9 then a + b else a ||| b
/-- an operand: a number, a fact of who lets pass or of the other one, the hour -/
def opdS (fg fo : Nat → Int32) (hour s : Int32) : Int32 := if s < 0 then (if s = -7 then hour else if s < -3 then fo (-3 - s).toNatClampNeg else fg (-s).toNatClampNeg) else s
/-- the steps from the i-th on, c of them, over the operands that wait (the last one first) -/
def evS (fg fo : Nat → Int32) (hour : Int32) (stp : Nat → Int32) (i : Nat) : Nat → List Int32 → List Int32
  | 0, w => w
  | c + 1, w => evS fg fo hour stp (i + 1) c (if stp i < -7 then (if stp i = -8 then (match w with | a :: r => (1 - a) :: r | [] => []) else (match w with | b :: a :: r => joinedS (stp i) a b :: r | r => r)) else opdS fg fo hour (stp i) :: w)
theorem evS_succ (fg fo : Nat → Int32) (hour : Int32) (stp : Nat → Int32) (i c : Nat) (w : List Int32) : evS fg fo hour stp i (c + 1) w = evS fg fo hour stp (i + 1) c (if stp i < -7 then (if stp i = -8 then (match w with | a :: r => (1 - a) :: r | [] => []) else (match w with | b :: a :: r => joinedS (stp i) a b :: r | r => r)) else opdS fg fo hour (stp i) :: w) := rfl
/-- the operands suffice, and never more than 64 wait; in the end there is one -/
def okD (stp : Nat → Int32) (i : Nat) : Nat → Nat → Prop
  | 0, k => k = 1
  | c + 1, k => if stp i < -7 then (if stp i = -8 then 1 ≤ k ∧ okD stp (i + 1) c k else 2 ≤ k ∧ okD stp (i + 1) c (k - 1)) else k < 64 ∧ okD stp (i + 1) c (k + 1)
def LAok (M : Mm) (L : Nat) : Prop := (m_sh M L).1 = 4 ∧ m_r M L 0 = L + 1 ∧ m_r M L 1 = L + 2 ∧ m_r M L 2 = L + 3 ∧ m_r M L 3 = L + 4 ∧ m_r M L 4 = L + 5 ∧ m_r M L 5 = L + 6 ∧
  m_sh M (L + 1) = (20, 10) ∧ m_sh M (L + 2) = (20, 10) ∧ m_sh M (L + 3) = (20, 10) ∧ m_sh M (L + 4) = (20, 10) ∧ m_sh M (L + 5) = (20, 500) ∧ m_sh M (L + 6) = (20, 64)
theorem LAok.of {M M' : Mm} {L : Nat} (h : LAok M L) (hr : ∀ a j, m_r M' a j = m_r M a j) (hs : ∀ a, m_sh M' a = m_sh M a) : LAok M' L := by
  unfold LAok
  rw [hs, hs, hs, hs, hs, hs, hs, hr, hr, hr, hr, hr, hr]
  exact h
theorem neg_small {s : Int32} (h1 : s < 0) (h2 : ¬ s < -3) : s = -1 ∨ s = -2 ∨ s = -3 := by
  have a1 : s.toInt < 0 := by simpa [Int32.lt_iff_toInt_lt] using h1
  have a2 : ¬ s.toInt < -3 := by simpa [Int32.lt_iff_toInt_lt] using h2
  have : s.toInt = -1 ∨ s.toInt = -2 ∨ s.toInt = -3 := by omega
  rcases this with e | e | e
  · exact Or.inl (Int32.toInt_inj.mp e)
  · exact Or.inr (Or.inl (Int32.toInt_inj.mp e))
  · exact Or.inr (Or.inr (Int32.toInt_inj.mp e))
theorem neg_mid {s : Int32} (h1 : s < -3) (h2 : ¬ s < -7) (h3 : ¬ s = -7) : s = -4 ∨ s = -5 ∨ s = -6 := by
  have a1 : s.toInt < -3 := by simpa [Int32.lt_iff_toInt_lt] using h1
  have a2 : ¬ s.toInt < -7 := by simpa [Int32.lt_iff_toInt_lt] using h2
  have a3 : ¬ s.toInt = -7 := fun q => h3 (Int32.toInt_inj.mp q)
  have : s.toInt = -4 ∨ s.toInt = -5 ∨ s.toInt = -6 := by omega
  rcases this with e | e | e
  · exact Or.inl (Int32.toInt_inj.mp e)
  · exact Or.inr (Or.inl (Int32.toInt_inj.mp e))
  · exact Or.inr (Or.inr (Int32.toInt_inj.mp e))
section SLA
variable {l : Launch} {G : Gx} {d : Nat} {bc bs : Nat} {Φ : OutV → Mm → Prop}
theorem ct_joined (M : Mm) (s a b : Int32) (h : Φ (.inl (some (.int (joinedS s a b)))) M) : Ct l G d mLa_joined bc bs [.int s, .int a, .int b] M Φ := by
  refine Ct.of rfl (Nat.le_of_ble_eq_true rfl) ?_
  unfold joinedS at h
  refine bLa_joined_0 M s a b ⟨fun c => ?_, fun c => ⟨fun c2 => ?_, fun c2 => ?_⟩, fun c => ⟨fun c2 => ?_, fun c2 => ?_⟩, fun c => ⟨fun c2 => ?_, fun c2 => ?_⟩, fun c => ⟨fun c2 => ⟨c2, ?_⟩, fun c2 => ?_⟩, fun c => ?_, fun c => ?_, fun c => ?_, fun c1 c2 c3 c4 c5 c6 c7 c8 => ?_⟩
  · rw [if_pos c] at h; exact h
  · subst c; rw [if_neg (by decide), if_pos rfl, if_neg c2] at h; exact h
  · subst c; rw [if_neg (by decide), if_pos rfl, if_pos c2] at h; exact h
  · subst c; rw [if_neg (by decide), if_neg (by decide), if_pos rfl, if_pos c2] at h; exact h
  · subst c; rw [if_neg (by decide), if_neg (by decide), if_pos rfl, if_neg c2] at h; exact h
  · subst c; rw [if_neg (by decide), if_neg (by decide), if_neg (by decide), if_pos rfl, if_pos c2] at h; exact h
  · subst c; rw [if_neg (by decide), if_neg (by decide), if_neg (by decide), if_pos rfl, if_neg c2] at h; exact h
  · subst c; rw [if_neg (by decide), if_neg (by decide), if_neg (by decide), if_neg (by decide), if_pos rfl, if_neg c2] at h; exact h
  · subst c; rw [if_neg (by decide), if_neg (by decide), if_neg (by decide), if_neg (by decide), if_pos rfl, if_pos c2] at h; exact h
  · subst c; rw [if_neg (by decide), if_neg (by decide), if_neg (by decide), if_neg (by decide), if_neg (by decide), if_pos rfl] at h; exact h
  · subst c; rw [if_neg (by decide), if_neg (by decide), if_neg (by decide), if_neg (by decide), if_neg (by decide), if_neg (by decide), if_pos rfl] at h; exact h
  · subst c; rw [if_neg (by decide), if_neg (by decide), if_neg (by decide), if_neg (by decide), if_neg (by decide), if_neg (by decide), if_neg (by decide), if_pos rfl] at h; exact h
  · rw [if_neg c1, if_neg c2, if_neg c3, if_neg c4, if_neg c5, if_neg c6, if_neg c7, if_neg c8] at h; exact h
theorem getD_tail (a : Int32) (w : List Int32) (j : Nat) (hj : j < w.length) : (a :: w).getD (w.length - j) 0 = w.getD (w.length - 1 - j) 0 := by
  rw [show w.length - j = (w.length - 1 - j) + 1 by omega]
  rfl
theorem ct_valueOf (M : Mm) (L P n : Nat) (f : Nat → Nat → Int32) (by_ : Nat → Nat) (hL : LAok M L) (hP : PEok M P) (hR : PErep M P n f by_) (hPL : P + 2 < L ∨ L + 6 < P) (r i0 c0 g o : Nat) (hr : r < 10) (hg : g < n) (ho : o < n) (hour : Int32)
    (h1 : m_i M (L + 3) r = nI i0) (h2 : m_i M (L + 4) r = nI (i0 + c0)) (h3 : i0 + c0 ≤ 500) (hok : okD (m_i M (L + 5)) i0 c0 0) (hd : 0 < d)
    (h : ∀ w : Nat → Int32, Φ (.inl (some (.int ((evS (f g) (f o) hour (m_i M (L + 5)) i0 c0 []).headD 0)))) (m_row M (L + 6) w)) : Ct l G d mLa_valueOf bc bs [.ref L, .int (nI r), .ref P, .int (nI g), .int (nI o), .int hour] M Φ := by
  obtain ⟨q0, -, -, q3, q4, q5, q6, -, -, s3, s4, s5, s6⟩ := id hL
  have hn8 := hR.2.1
  refine Ct.of rfl (Nat.le_of_ble_eq_true rfl) ?_
  refine bLa_valueOf_0 M L _ P _ _ _ ⟨q0, by rw [q3, s3], by rw [q3, s3]; exact vp_in_nI hr (by decide), ?_⟩
  rw [q3, nI_clamp (by omega), h1]
  have hsm : ∀ w, LAok (m_row M (L + 6) w) L := fun w => hL.of (fun _ _ => rfl) (fun _ => rfl)
  have hpm : ∀ w, PEok (m_row M (L + 6) w) P := fun w => hP.of (fun _ _ => rfl) (fun _ => rfl)
  have loop : ∀ c i (st : List Int32) (w : Nat → Int32) (u : Value), i + c = i0 + c0 → st.length ≤ 64 → okD (m_i M (L + 5)) i c st.length → (∀ j, j < st.length → w j = st.getD (st.length - 1 - j) 0) → (evS (f g) (f o) hour (m_i M (L + 5)) i c st) = (evS (f g) (f o) hour (m_i M (L + 5)) i0 c0 []) →
      Ev l G d mLa_valueOf 11 [.ref L, .int (nI r), .ref P, .int (nI g), .int (nI o), .int hour, .int (nI st.length), .int (nI i), u] [] (m_row M (L + 6) w) bc bs Φ := by
    intro c
    induction c with
    | zero =>
      intro i st w u hi hlen0 hk hw he
      have hk1 : st.length = 1 := hk
      have e4 : m_i (m_row M (L + 6) w) (L + 4) r = nI (i0 + c0) := by rw [m_i_row, if_neg (by omega)]; exact h2
      have f3 : m_r (m_row M (L + 6) w) L 3 = L + 4 := q4
      have f5 : m_r (m_row M (L + 6) w) L 5 = L + 6 := q6
      refine bLa_valueOf_11 _ L _ P _ _ _ _ _ u ⟨q0, by rw [f3]; exact congrArg Prod.fst s4, by rw [f3, m_sh_row, s4]; exact vp_in_nI hr (by decide), fun _ => ⟨fun c2 => absurd c2 (by rw [hk1]; decide), fun _ => ⟨by rw [f5]; exact congrArg Prod.fst s6, by rw [f5, m_sh_row, s6]; exact vp_in_dec rfl, ?_⟩⟩, fun c2 => absurd (by rw [f3, nI_clamp (by omega), e4]; exact nI_le (by omega) (by omega)) c2⟩
      rw [f5, m_i_rowS]
      have e0 : w (0 : Int32).toNatClampNeg = (evS (f g) (f o) hour (m_i M (L + 5)) i0 c0 []).headD 0 := by
        rw [← he]
        show w 0 = st.headD 0
        rw [hw 0 (by omega), hk1]
        match st, hk1 with
        | [a], _ => rfl
      rw [e0]
      exact h w
    | succ c ih =>
      intro i st w u hi hlen0 hk hw he
      have e4 : m_i (m_row M (L + 6) w) (L + 4) r = nI (i0 + c0) := by rw [m_i_row, if_neg (by omega)]; exact h2
      have f3 : m_r (m_row M (L + 6) w) L 3 = L + 4 := q4
      have f4 : m_r (m_row M (L + 6) w) L 4 = L + 5 := q5
      have f5 : m_r (m_row M (L + 6) w) L 5 = L + 6 := q6
      have es : m_i (m_row M (L + 6) w) (L + 5) i = m_i M (L + 5) i := by rw [m_i_row, if_neg (by omega)]
      have hci : (nI i).toNatClampNeg = i := nI_clamp (by omega)
      have hcr : (nI r).toNatClampNeg = r := nI_clamp (by omega)
      have hin : vp_in (nI i) 500 := vp_in_nI (by omega) (by omega)
      have hnext : ∀ (st' : List Int32) (w' : Nat → Int32) (v : Int32), st'.length ≤ 64 → okD (m_i M (L + 5)) (i + 1) c st'.length → (∀ j, j < st'.length → w' j = st'.getD (st'.length - 1 - j) 0) → evS (f g) (f o) hour (m_i M (L + 5)) (i + 1) c st' = evS (f g) (f o) hour (m_i M (L + 5)) i0 c0 [] →
          Ev l G d mLa_valueOf 207 [.ref L, .int (nI r), .ref P, .int (nI g), .int (nI o), .int hour, .int (nI st'.length), .int (nI i), .int v] [] (m_row M (L + 6) w') bc bs Φ := fun st' w' v a0 a1 a2 a3 => by
        refine bLa_valueOf_207 _ L _ P _ _ _ _ _ _ ?_
        rw [nI_1]
        exact ih (i + 1) st' w' _ (by omega) a0 a1 a2 a3
      have hR' : PErep (m_row M (L + 6) w) P n f by_ := hR.fr (Fr.row1 w) (by omega) (by omega) (by omega)
      unfold okD at hk
      rw [evS_succ] at he
      refine bLa_valueOf_11 _ L _ P _ _ _ _ _ u ⟨q0, by rw [f3]; exact congrArg Prod.fst s4, by rw [f3, m_sh_row, s4]; exact vp_in_nI hr (by decide), fun c2 => absurd c2 (by rw [f3, hcr, e4]; exact nI_not_le (by omega) (by omega)), fun _ => ⟨by rw [f4]; exact congrArg Prod.fst s5, by rw [f4, m_sh_row, s5]; exact hin, ?_⟩⟩
      rw [f4, f5, hci, es]
      generalize hst : m_i M (L + 5) i = s at *
      -- a store of an operand on top
      have hpush : ∀ v : Int32, st.length < 64 → okD (m_i M (L + 5)) (i + 1) c (st.length + 1) → evS (f g) (f o) hour (m_i M (L + 5)) (i + 1) c (v :: st) = evS (f g) (f o) hour (m_i M (L + 5)) i0 c0 [] →
          Ev l G d mLa_valueOf 122 [.ref L, .int (nI r), .ref P, .int (nI g), .int (nI o), .int hour, .int (nI st.length), .int (nI i), .int s] [] (m_si (m_row M (L + 6) w) (L + 6) (nI st.length).toNatClampNeg v) bc bs Φ := fun v b1 b2 b3 => by
        refine bLa_valueOf_122 _ L _ P _ _ _ _ _ _ ?_
        rw [nI_1, nI_clamp (by omega), m_si_row, m_row_row]
        refine hnext (v :: st) _ s (by show st.length + 1 ≤ 64; omega) b2 (fun j hj => ?_) b3
        rw [m_i_rowS]
        by_cases e : j = st.length
        · rw [if_pos e, e]
          show v = (v :: st).getD (st.length + 1 - 1 - st.length) 0
          rw [show st.length + 1 - 1 - st.length = 0 by omega]
          rfl
        · have hj' : j < st.length + 1 := hj
          rw [if_neg e, hw j (by omega)]
          show _ = (v :: st).getD (st.length + 1 - 1 - j) 0
          rw [show st.length + 1 - 1 - j = st.length - j by omega, getD_tail v st j (by omega)]
      refine ⟨fun cs => ?_, fun cs => ?_⟩
      · rw [if_pos cs] at hk he
        refine ⟨fun c8 => ?_, fun c8 => ?_⟩
        · rw [if_neg c8] at hk he
          obtain ⟨k2, hk⟩ := hk
          refine ⟨fun _ => ?_, fun cc => absurd (nI_le k2 (by omega)) cc⟩
          obtain ⟨b, a, rr, rfl⟩ : ∃ b a rr, st = b :: a :: rr := by
            match st, k2 with
            | b :: a :: rr, _ => exact ⟨b, a, rr, rfl⟩
          have e1 : nI (b :: a :: rr).length + (-1) = nI (rr.length + 1) := pk_m1 _
          have e2 : nI (rr.length + 1) - 1 = nI rr.length := nI_pred _
          have hl : rr.length + 2 ≤ 64 := hlen0
          have wb : w (rr.length + 1) = b := by
            rw [hw (rr.length + 1) (by show _ < rr.length + 1 + 1; omega), show (b :: a :: rr).length - 1 - (rr.length + 1) = 0 by show rr.length + 1 + 1 - 1 - (rr.length + 1) = 0; omega]
            rfl
          have wa : w rr.length = a := by
            rw [hw rr.length (by show _ < rr.length + 1 + 1; omega), show (b :: a :: rr).length - 1 - rr.length = 1 by show rr.length + 1 + 1 - 1 - rr.length = 1; omega]
            rfl
          have g1 : (nI (rr.length + 1)).toNatClampNeg = rr.length + 1 := nI_clamp (by omega)
          have g0 : (nI rr.length).toNatClampNeg = rr.length := nI_clamp (by omega)
          rw [e1, e2, m_i_rowS, m_i_rowS, g1, g0, wb, wa]
          refine ⟨congrArg Prod.fst s6, by rw [m_sh_row, s6]; exact vp_in_nI (by omega) (by decide), by rw [m_sh_row, s6]; exact vp_in_nI (by omega) (by decide), CallVC.cps0 hd ?_⟩
          refine ct_joined _ s a b ?_
          refine bLa_valueOf_206 _ L _ P _ _ _ _ _ _ (L + 6) _ _ ⟨congrArg Prod.fst s6, by rw [m_sh_row, s6]; exact vp_in_nI (by omega) (by decide), ?_⟩
          rw [g0, m_si_row, m_row_row]
          refine hnext (joinedS s a b :: rr) _ s (by show rr.length + 1 ≤ 64; omega) hk (fun j hj => ?_) he
          have hj' : j < rr.length + 1 := hj
          rw [m_i_rowS]
          by_cases e : j = rr.length
          · rw [if_pos e, e]
            show _ = (joinedS s a b :: rr).getD (rr.length + 1 - 1 - rr.length) 0
            rw [show rr.length + 1 - 1 - rr.length = 0 by omega]
            rfl
          · rw [if_neg e, hw j (by show j < rr.length + 1 + 1; omega)]
            show (b :: a :: rr).getD (rr.length + 1 + 1 - 1 - j) 0 = (joinedS s a b :: rr).getD (rr.length + 1 - 1 - j) 0
            rw [show rr.length + 1 + 1 - 1 - j = (rr.length - 1 - j) + 2 by omega, show rr.length + 1 - 1 - j = (rr.length - 1 - j) + 1 by omega]
            rfl
        · rw [if_pos c8] at hk he
          obtain ⟨k1, hk⟩ := hk
          refine ⟨fun _ => ?_, fun cc => absurd (nI_le k1 (by omega)) cc⟩
          obtain ⟨a, rr, rfl⟩ : ∃ a rr, st = a :: rr := by
            match st, k1 with
            | a :: rr, _ => exact ⟨a, rr, rfl⟩
          have e2 : nI (a :: rr).length - 1 = nI rr.length := nI_pred _
          have hl : rr.length + 1 ≤ 64 := hlen0
          have g0 : (nI rr.length).toNatClampNeg = rr.length := nI_clamp (by omega)
          have wa : w rr.length = a := by
            rw [hw rr.length (by show _ < rr.length + 1; omega), show (a :: rr).length - 1 - rr.length = 0 by show rr.length + 1 - 1 - rr.length = 0; omega]
            rfl
          rw [e2, m_i_rowS, g0, wa]
          refine ⟨congrArg Prod.fst s6, by rw [m_sh_row, s6]; exact vp_in_nI (by omega) (by decide), ?_⟩
          rw [m_si_row, m_row_row]
          refine hnext ((1 - a) :: rr) _ s (by show rr.length + 1 ≤ 64; omega) hk (fun j hj => ?_) he
          have hj' : j < rr.length + 1 := hj
          rw [m_i_rowS]
          by_cases e : j = rr.length
          · rw [if_pos e, e]
            show _ = ((1 - a) :: rr).getD (rr.length + 1 - 1 - rr.length) 0
            rw [show rr.length + 1 - 1 - rr.length = 0 by omega]
            rfl
          · rw [if_neg e, hw j (by show j < rr.length + 1; omega)]
            show (a :: rr).getD (rr.length + 1 - 1 - j) 0 = ((1 - a) :: rr).getD (rr.length + 1 - 1 - j) 0
            rw [show rr.length + 1 - 1 - j = (rr.length - 1 - j) + 1 by omega]
            rfl
      · rw [if_neg cs] at hk he
        obtain ⟨k64, hk⟩ := hk
        have hin6 : vp_in (nI st.length) 64 := vp_in_nI k64 (by decide)
        refine ⟨congrArg Prod.fst s6, fun _ => ⟨fun cn => ⟨fun c7 => ⟨fun c3 => ⟨hP.1, ?_⟩, fun c3 => ⟨hP.1, ?_⟩⟩, fun c7 => ⟨by rw [m_sh_row, s6]; exact hin6, hpush hour k64 hk ?_⟩⟩, fun cn => ⟨by rw [m_sh_row, s6]; exact hin6, hpush s k64 hk ?_⟩⟩, fun cc => absurd (by rw [m_sh_row, s6]; exact (nI_ltI (by omega) (by decide)).mpr k64) cc⟩
        · obtain ⟨k, hk8, ek⟩ : ∃ k : Nat, k < 8 ∧ (-3) - s = nI k := by
            rcases neg_mid c3 cs c7 with e | e | e
            · exact ⟨1, by omega, by rw [e]; decide⟩
            · exact ⟨2, by omega, by rw [e]; decide⟩
            · exact ⟨3, by omega, by rw [e]; decide⟩
          have eo : opdS (f g) (f o) hour s = f o k := by
            unfold opdS
            rw [if_pos cn, if_neg c7, if_pos c3, ek, nI_clamp (by omega)]
          rw [eo] at he
          rw [ek]
          refine CallVC.cps0 hd (ct_fact _ P o k (hpm w) (by omega) hk8 ?_)
          rw [hR'.2.2.1 o k ho hk8]
          refine bLa_valueOf_121 _ L _ P _ _ _ _ _ _ (L + 6) _ _ ⟨congrArg Prod.fst s6, by rw [m_sh_row, s6]; exact hin6, hpush _ k64 hk he⟩
        · obtain ⟨k, hk8, ek⟩ : ∃ k : Nat, k < 8 ∧ -s = nI k := by
            rcases neg_small cn c3 with e | e | e
            · exact ⟨1, by omega, by rw [e]; decide⟩
            · exact ⟨2, by omega, by rw [e]; decide⟩
            · exact ⟨3, by omega, by rw [e]; decide⟩
          have eo : opdS (f g) (f o) hour s = f g k := by
            unfold opdS
            rw [if_pos cn, if_neg c7, if_neg c3, ek, nI_clamp (by omega)]
          rw [eo] at he
          rw [ek]
          refine CallVC.cps0 hd (ct_fact _ P g k (hpm w) (by omega) hk8 ?_)
          rw [hR'.2.2.1 g k hg hk8]
          refine bLa_valueOf_107 _ L _ P _ _ _ _ _ _ (L + 6) _ _ ?_
          refine bLa_valueOf_121 _ L _ P _ _ _ _ _ _ (L + 6) _ _ ⟨congrArg Prod.fst s6, by rw [m_sh_row, s6]; exact hin6, hpush _ k64 hk he⟩
        · have e : opdS (f g) (f o) hour s = hour := by unfold opdS; rw [if_pos cn, if_pos c7]
          rw [e] at he
          exact he
        · have e : opdS (f g) (f o) hour s = s := by unfold opdS; rw [if_neg cn]
          rw [e] at he
          exact he
  have h0 := loop c0 i0 [] (m_i M (L + 6)) .null rfl (by decide) hok (fun j hj => absurd hj (Nat.not_lt_zero j)) rfl
  rw [m_row_self M (L + 6) (fun _ => rfl)] at h0
  exact h0
end SLA
