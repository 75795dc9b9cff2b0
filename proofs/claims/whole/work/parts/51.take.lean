/-! ===== the LAW as told; InForce.take ===== -/
/-- kind, number, steps -/
abbrev RU : Type := Nat × Nat × List Int32
abbrev ru0 : RU := (0, 0, [])
def stL (s : List Int32) : Nat → Int32 := fun i => s.getD i 0
def valR (r : RU) (f : Nat → Nat → Int32) (g o h : Nat) : Int32 := (evS (f g) (f o) (nI h) (stL r.2.2) 0 r.2.2.length []).headD 0
def rgOK (k n : Nat) : Prop := (k = 2 → 1 ≤ n ∧ n ≤ 99) ∧ (k = 3 → 1 ≤ n ∧ n ≤ 9) ∧ (k = 6 → n ≤ 9) ∧ (k = 7 → 1 ≤ n) ∧ n ≤ 999
/-- the steps fit each other: true stands for an operand that is 0 or 1 -/
def tyD (s : Nat → Int32) (i : Nat) : Nat → List Bool → List Bool → Prop
  | 0, w, e => w = e
  | c + 1, w, e => (-17 ≤ s i ∧ s i ≤ 9999) ∧ if s i < -7 then (if s i = -8 then (match w with
      | true :: r => tyD s (i + 1) c (true :: r) e
      | _ => False) else (match w with
      | b :: a :: r => if s i < -15 then (a = true ∧ b = true) ∧ tyD s (i + 1) c (true :: r) e else (a = false ∧ b = false) ∧ tyD s (i + 1) c (decide (s i < -12) :: r) e
      | _ => False)) else tyD s (i + 1) c (false :: w) e
theorem tyD_succ (s : Nat → Int32) (i c : Nat) (w e : List Bool) : tyD s i (c + 1) w e = ((-17 ≤ s i ∧ s i ≤ 9999) ∧ if s i < -7 then (if s i = -8 then (match w with
      | true :: r => tyD s (i + 1) c (true :: r) e
      | _ => False) else (match w with
      | b :: a :: r => if s i < -15 then (a = true ∧ b = true) ∧ tyD s (i + 1) c (true :: r) e else (a = false ∧ b = false) ∧ tyD s (i + 1) c (decide (s i < -12) :: r) e
      | _ => False)) else tyD s (i + 1) c (false :: w) e) := rfl
def bvL : List Bool → List Int32 → Prop
  | [], [] => True
  | t :: ts, v :: vs => (t = true → v = 0 ∨ v = 1) ∧ bvL ts vs
  | _, _ => False
theorem b01_and {a b : Int32} (ha : a = 0 ∨ a = 1) (hb : b = 0 ∨ b = 1) : (a &&& b = 0 ∨ a &&& b = 1) ∧ a * b = a &&& b := by
  rcases ha with rfl | rfl <;> rcases hb with rfl | rfl <;> decide
theorem b01_or {a b : Int32} (ha : a = 0 ∨ a = 1) (hb : b = 0 ∨ b = 1) : (a ||| b = 0 ∨ a ||| b = 1) ∧ (if a + b ≤ 0 then (0 : Int32) else 1) = a ||| b := by
  rcases ha with rfl | rfl <;> rcases hb with rfl | rfl <;> decide
theorem b01_not {a : Int32} (ha : a = 0 ∨ a = 1) : (1 - a = 0 ∨ 1 - a = 1) := by
  rcases ha with rfl | rfl <;> decide
theorem ite01 {P : Prop} [Decidable P] : ((if P then (1 : Int32) else 0) = 0 ∨ (if P then (1 : Int32) else 0) = 1) ∧ ((if P then (0 : Int32) else 1) = 0 ∨ (if P then (0 : Int32) else 1) = 1) := by
  by_cases h : P
  · rw [if_pos h, if_pos h]; exact ⟨Or.inr rfl, Or.inl rfl⟩
  · rw [if_neg h, if_neg h]; exact ⟨Or.inl rfl, Or.inr rfl⟩
theorem i32_lit {s : Int32} {k : Int} (h : s.toInt = k) (t : Int32) (ht : t.toInt = k) : s = t := Int32.toInt_inj.mp (h.trans ht.symm)
theorem joined_ty {s a b : Int32} (h1 : s < -7) (h2 : ¬ s = -8) (h0 : -17 ≤ s) : (s < -15 → (a = 0 ∨ a = 1) → (b = 0 ∨ b = 1) → joinedS s a b = 0 ∨ joinedS s a b = 1) ∧ (¬ s < -15 → s < -12 → joinedS s a b = 0 ∨ joinedS s a b = 1) := by
  have e1 : s.toInt < -7 := Int32.lt_iff_toInt_lt.mp h1
  have e0 : -17 ≤ s.toInt := Int32.le_iff_toInt_le.mp h0
  constructor
  · intro q ha hb
    have e2 : s.toInt < -15 := Int32.lt_iff_toInt_lt.mp q
    have : s.toInt = -16 ∨ s.toInt = -17 := by omega
    rcases this with e | e
    · rw [i32_lit e (-16) rfl]; exact (b01_and ha hb).1
    · rw [i32_lit e (-17) rfl]; exact (b01_or ha hb).1
  · intro q q2
    have e2 : ¬ s.toInt < -15 := fun z => q (Int32.lt_iff_toInt_lt.mpr z)
    have e3 : s.toInt < -12 := Int32.lt_iff_toInt_lt.mp q2
    have : s.toInt = -13 ∨ s.toInt = -14 ∨ s.toInt = -15 := by omega
    rcases this with e | e | e
    · rw [i32_lit e (-13) rfl]; exact ite01.2
    · rw [i32_lit e (-14) rfl]; exact ite01.2
    · rw [i32_lit e (-15) rfl]; exact ite01.1
theorem tyD_ev (fg fo : Nat → Int32) (h : Int32) {s : Nat → Int32} : ∀ c i w ts e, tyD s i c ts e → bvL ts w → bvL e (evS fg fo h s i c w)
  | 0, _, _, _, _, h1, h2 => by cases h1; exact h2
  | c + 1, i, w, ts, e, h1, h2 => by
    rw [tyD_succ] at h1
    rw [evS_succ]
    obtain ⟨⟨r1, r2⟩, h1⟩ := h1
    by_cases q1 : s i < -7
    · rw [if_pos q1] at h1 ⊢
      by_cases q2 : s i = -8
      · rw [if_pos q2] at h1 ⊢
        match ts, w, h1, h2 with
        | true :: ts, v :: w, h1, h2 => exact tyD_ev fg fo h c (i + 1) _ _ e h1 ⟨fun _ => b01_not (h2.1 rfl), h2.2⟩
      · rw [if_neg q2] at h1 ⊢
        match ts, w, h1, h2 with
        | b :: a :: ts, v :: u :: w, h1, h2 =>
          obtain ⟨j1, j2⟩ := joined_ty (a := u) (b := v) q1 q2 r1
          by_cases q3 : s i < -15
          · simp only [if_pos q3] at h1
            exact tyD_ev fg fo h c (i + 1) _ _ e h1.2 ⟨fun _ => j1 q3 (h2.2.1 h1.1.1) (h2.1 h1.1.2), h2.2.2⟩
          · simp only [if_neg q3] at h1
            exact tyD_ev fg fo h c (i + 1) _ _ e h1.2 ⟨fun z => j2 q3 (of_decide_eq_true z), h2.2.2⟩
    · rw [if_neg q1] at h1 ⊢
      exact tyD_ev fg fo h c (i + 1) _ _ e h1 ⟨fun z => absurd z (by decide), h2⟩
def RUok (r : RU) : Prop := 2 ≤ r.1 ∧ r.1 ≤ 9 ∧ rgOK r.1 r.2.1 ∧ (8 ≤ r.1 → okD (stL r.2.2) 0 r.2.2.length 0) ∧ (8 ≤ r.1 → tyD (stL r.2.2) 0 r.2.2.length [] [decide (r.1 = 9)])
theorem RUok.bool {r : RU} (h : RUok r) (h9 : r.1 = 9) (fg fo : Nat → Int32) (hh : Int32) : (evS fg fo hh (stL r.2.2) 0 r.2.2.length []).headD 0 = 0 ∨ (evS fg fo hh (stL r.2.2) 0 r.2.2.length []).headD 0 = 1 := by
  have := tyD_ev fg fo hh _ _ [] [] _ (h.2.2.2.2 (by omega)) trivial
  rw [h9] at this
  match evS fg fo hh (stL r.2.2) 0 r.2.2.length [], this with
  | v :: w, z => exact z.1 rfl
/-- the numbers in force, out of the first i RULES -/
def nuS (R : List RU) (out : Nat) : Nat → Nat → Int32
  | 0, k => if k = 5 then 999 else if k = 6 then 0 else -1
  | i + 1, k => if out.testBit i = true then nuS R out i k else if (R.getD i ru0).1 = k then (if k = 8 ∨ k = 9 then nI i else nI (R.getD i ru0).2.1) else nuS R out i k
def mustF (R : List RU) (nu : Nat → Int32) (f : Nat → Nat → Int32) (g o h : Nat) : Bool := if nu 9 = -1 then false else decide (valR (R.getD (nu 9).toNatClampNeg ru0) f g o h = 1)
def worthF (R : List RU) (nu : Nat → Int32) (f : Nat → Nat → Int32) (g o h : Nat) : Int32 := if nu 8 = -1 then 1 else heldS (valR (R.getD (nu 8).toNatClampNeg ru0) f g o h)
def LArep (M : Mm) (L : Nat) (R : List RU) : Prop := m_i M L 7 = nI R.length ∧ R.length ≤ 10 ∧ ∀ i, i < R.length → m_i M (L + 1) i = nI (R.getD i ru0).1 ∧ ((R.getD i ru0).1 < 8 → m_i M (L + 2) i = nI (R.getD i ru0).2.1) ∧
  ∃ i0, m_i M (L + 3) i = nI i0 ∧ m_i M (L + 4) i = nI (i0 + (R.getD i ru0).2.2.length) ∧ i0 + (R.getD i ru0).2.2.length ≤ 500 ∧ ∀ j, j < (R.getD i ru0).2.2.length → m_i M (L + 5) (i0 + j) = stL (R.getD i ru0).2.2 j
theorem LArep.fr {M M' : Mm} {L : Nat} {R : List RU} (h : LArep M L R) (hF : ∀ a, L ≤ a → a ≤ L + 5 → ∀ j, m_i M' a j = m_i M a j) : LArep M' L R := by
  obtain ⟨a1, a2, a3⟩ := h
  refine ⟨by rw [hF _ (by omega) (by omega)]; exact a1, a2, fun i hi => ?_⟩
  obtain ⟨b1, b2, i0, b3, b4, b5, b6⟩ := a3 i hi
  exact ⟨by rw [hF _ (by omega) (by omega)]; exact b1, fun q => by rw [hF _ (by omega) (by omega)]; exact b2 q, i0, by rw [hF _ (by omega) (by omega)]; exact b3, by rw [hF _ (by omega) (by omega)]; exact b4, b5, fun j hj => by rw [hF _ (by omega) (by omega)]; exact b6 j hj⟩
theorem evS_shift (fg fo : Nat → Int32) (hour : Int32) {s s' : Nat → Int32} : ∀ c i i' w, (∀ j, j < c → s (i + j) = s' (i' + j)) → evS fg fo hour s i c w = evS fg fo hour s' i' c w
  | 0, _, _, _, _ => rfl
  | c + 1, i, i', w, h => by
    have h0 := h 0 (by omega)
    rw [Nat.add_zero, Nat.add_zero] at h0
    rw [evS_succ, evS_succ, h0]
    exact evS_shift fg fo hour c (i + 1) (i' + 1) _ (fun j hj => by rw [show i + 1 + j = i + (j + 1) by omega, show i' + 1 + j = i' + (j + 1) by omega]; exact h (j + 1) (by omega))
theorem okD_succ (s : Nat → Int32) (i c k : Nat) : okD s i (c + 1) k = if s i < -7 then (if s i = -8 then 1 ≤ k ∧ okD s (i + 1) c k else 2 ≤ k ∧ okD s (i + 1) c (k - 1)) else k < 64 ∧ okD s (i + 1) c (k + 1) := rfl
theorem okD_shift {s s' : Nat → Int32} : ∀ c i i' k, (∀ j, j < c → s (i + j) = s' (i' + j)) → okD s i c k → okD s' i' c k
  | 0, _, _, _, _, h => h
  | c + 1, i, i', k, h, hk => by
    have h0 := h 0 (by omega)
    rw [Nat.add_zero, Nat.add_zero] at h0
    have hs : ∀ j, j < c → s (i + 1 + j) = s' (i' + 1 + j) := fun j hj => by rw [show i + 1 + j = i + (j + 1) by omega, show i' + 1 + j = i' + (j + 1) by omega]; exact h (j + 1) (by omega)
    rw [okD_succ] at hk ⊢
    rw [← h0]
    by_cases q1 : s i < -7
    · rw [if_pos q1] at hk ⊢
      by_cases q2 : s i = -8
      · rw [if_pos q2] at hk ⊢
        exact ⟨hk.1, okD_shift c _ _ _ hs hk.2⟩
      · rw [if_neg q2] at hk ⊢
        exact ⟨hk.1, okD_shift c _ _ _ hs hk.2⟩
    · rw [if_neg q1] at hk ⊢
      exact ⟨hk.1, okD_shift c _ _ _ hs hk.2⟩
theorem LArep.rule {M : Mm} {L : Nat} {R : List RU} (h : LArep M L R) (hR : ∀ r ∈ R, RUok r) {i : Nat} (hi : i < R.length) (h8 : 8 ≤ (R.getD i ru0).1) (n : Nat) (f : Nat → Nat → Int32) : ruleS M L n f i (valR (R.getD i ru0) f) := by
  obtain ⟨a1, a2, a3⟩ := h
  obtain ⟨b1, b2, i0, b3, b4, b5, b6⟩ := a3 i hi
  have hm : R.getD i ru0 ∈ R := by
    rw [List.getD_eq_getElem?_getD, List.getElem?_eq_getElem hi]
    exact List.getElem_mem hi
  obtain ⟨-, -, -, c4, -⟩ := hR _ hm
  refine ⟨i0, (R.getD i ru0).2.2.length, by omega, b3, b4, b5, okD_shift _ 0 i0 0 (fun j hj => by rw [Nat.zero_add]; exact (b6 j hj).symm) (c4 h8), fun g o h q1 q2 q3 => ?_⟩
  unfold valR
  rw [evS_shift (s' := stL (R.getD i ru0).2.2) _ _ _ _ i0 0 [] (fun j hj => by rw [Nat.zero_add]; exact b6 j hj)]
theorem bit_get10 {s p : Nat} (hs : s < 1024) (hp : p < 10) : ((nI s >>> (nI p &&& 31)) &&& 1) = (if s.testBit p then 1 else 0) := by
  have h : ∀ p, p < 10 → ∀ s, s < 1024 → ((nI s >>> (nI p &&& 31)) &&& 1) = (if s.testBit p then 1 else 0) := by decide +kernel
  exact h p hp s hs
/-- ints outside P, references outside Q are the same -/
def FrX (P Q : Nat → Nat → Prop) (M M' : Mm) : Prop := (∀ a j, ¬ P a j → m_i M' a j = m_i M a j) ∧ (∀ a j, ¬ Q a j → m_r M' a j = m_r M a j) ∧ (∀ a j, m_l M' a j = m_l M a j) ∧ (∀ a, m_sh M' a = m_sh M a) ∧ m_nx M' = m_nx M
theorem FrX.rf (P Q : Nat → Nat → Prop) (M : Mm) : FrX P Q M M := ⟨fun _ _ _ => rfl, fun _ _ _ => rfl, fun _ _ => rfl, fun _ => rfl, rfl⟩
theorem FrX.tr {P Q : Nat → Nat → Prop} {M M' M2 : Mm} (h : FrX P Q M M') (h2 : FrX P Q M' M2) : FrX P Q M M2 :=
  ⟨fun a j ha => (h2.1 a j ha).trans (h.1 a j ha), fun a j ha => (h2.2.1 a j ha).trans (h.2.1 a j ha), fun a j => (h2.2.2.1 a j).trans (h.2.2.1 a j), fun a => (h2.2.2.2.1 a).trans (h.2.2.2.1 a), h2.2.2.2.2.trans h.2.2.2.2⟩
theorem FrX.mono {P Q P' Q' : Nat → Nat → Prop} {M M' : Mm} (h : FrX P Q M M') (hP : ∀ a j, P a j → P' a j) (hQ : ∀ a j, Q a j → Q' a j) : FrX P' Q' M M' := ⟨fun a j ha => h.1 a j (fun q => ha (hP a j q)), fun a j ha => h.2.1 a j (fun q => ha (hQ a j q)), h.2.2⟩
theorem FrX.of {P Q : Nat → Nat → Prop} {M M' : Mm} (h : FrS P M M') : FrX P Q M M' := ⟨h.1, fun a j _ => h.2.1 a j, h.2.2⟩
theorem FrX.sr {P Q : Nat → Nat → Prop} {M : Mm} {a k : Nat} (h : Q a k) (v : Nat) : FrX P Q M (m_sr M a k v) :=
  ⟨fun _ _ _ => rfl, fun b j hb => by rw [m_r_sr, if_neg (fun (q : b = a ∧ j = k) => hb (by rw [q.1, q.2]; exact h))], fun _ _ => rfl, fun _ => rfl, rfl⟩
theorem PEok.fx {M M' : Mm} {P : Nat} {X Y : Nat → Nat → Prop} (h : PEok M P) (hF : FrX X Y M M') (hY : ∀ j, ¬ Y P j) : PEok M' P := by
  obtain ⟨h0, h1, h2, h3, h4⟩ := h
  exact ⟨by rw [hF.2.2.2.1]; exact h0, by rw [hF.2.1 _ _ (hY _)]; exact h1, by rw [hF.2.1 _ _ (hY _)]; exact h2, by rw [hF.2.2.2.1]; exact h3, by rw [hF.2.2.2.1]; exact h4⟩
theorem LAok.fx {M M' : Mm} {L : Nat} {X Y : Nat → Nat → Prop} (h : LAok M L) (hF : FrX X Y M M') (hY : ∀ j, ¬ Y L j) : LAok M' L := by
  obtain ⟨h0, h1, h2, h3, h4, h5, h6, h7, h8, h9, h10, h11, h12⟩ := h
  have hr : ∀ j, m_r M' L j = m_r M L j := fun j => hF.2.1 _ _ (hY j)
  have hs := hF.2.2.2.1
  exact ⟨by rw [hs]; exact h0, by rw [hr]; exact h1, by rw [hr]; exact h2, by rw [hr]; exact h3, by rw [hr]; exact h4, by rw [hr]; exact h5, by rw [hr]; exact h6, by rw [hs]; exact h7, by rw [hs]; exact h8, by rw [hs]; exact h9, by rw [hs]; exact h10, by rw [hs]; exact h11, by rw [hs]; exact h12⟩
theorem PErep.fx {M M' : Mm} {P n : Nat} {f : Nat → Nat → Int32} {by_ : Nat → Nat} (h : PErep M P n f by_) (hF : ∀ a, P ≤ a → a ≤ P + 2 → ∀ j, m_i M' a j = m_i M a j) : PErep M' P n f by_ :=
  ⟨by rw [hF _ (by omega) (by omega)]; exact h.1, h.2.1, fun p w hp hw => by rw [hF _ (by omega) (by omega)]; exact h.2.2.1 p w hp hw, fun i hi => by rw [hF _ (by omega) (by omega)]; exact h.2.2.2 i hi⟩
/-- an InForce, whatever LAW and PERSONS it has -/
def IFsh (M : Mm) (I : Nat) : Prop := (m_sh M I).1 = 3 ∧ m_r M I 0 = I + 1 ∧ m_r M I 3 = I + 2 ∧ m_r M I 4 = I + 3 ∧ m_sh M (I + 1) = (20, 10) ∧ m_sh M (I + 2) = (21, 1088) ∧ m_sh M (I + 3) = (21, 1088)
/-- what is kept of a must, of a worth -/
def ICm (M : Mm) (I : Nat) (R : List RU) (n : Nat) (f : Nat → Nat → Int32) : Prop := (∀ j, j < 1088 → m_i M (I + 2) j = 0) ∨
  (m_i M I 5 = -1 ∧ ∀ g o h, g < n → o < n → h < 17 → m_i M (I + 2) ((g * 8 + o) * 17 + h) = 0 ∨ m_i M (I + 2) ((g * 8 + o) * 17 + h) = 1) ∨
  ∃ r, r < R.length ∧ m_i M I 5 = nI r ∧ ∀ g o h, g < n → o < n → h < 17 → m_i M (I + 2) ((g * 8 + o) * 17 + h) = 0 ∨ m_i M (I + 2) ((g * 8 + o) * 17 + h) = if decide (valR (R.getD r ru0) f g o h = 1) then 2 else 1
def ICw (M : Mm) (I : Nat) (R : List RU) (n : Nat) (f : Nat → Nat → Int32) : Prop := (∀ j, j < 1088 → m_i M (I + 3) j = 0) ∨
  (m_i M I 6 = -1 ∧ ∀ g o h, g < n → o < n → h < 17 → m_i M (I + 3) ((g * 8 + o) * 17 + h) = 0 ∨ m_i M (I + 3) ((g * 8 + o) * 17 + h) = 2) ∨
  ∃ r, r < R.length ∧ m_i M I 6 = nI r ∧ ∀ g o h, g < n → o < n → h < 17 → m_i M (I + 3) ((g * 8 + o) * 17 + h) = 0 ∨ m_i M (I + 3) ((g * 8 + o) * 17 + h) = heldS (valR (R.getD r ru0) f g o h) + 1
theorem nuS_rule {R : List RU} (hR : R.length ≤ 10) {out k : Nat} (hk : k = 8 ∨ k = 9) : ∀ i, i ≤ R.length → nuS R out i k = -1 ∨ ∃ r, r < i ∧ nuS R out i k = nI r ∧ (R.getD r ru0).1 = k
  | 0, _ => by
    left
    rcases hk with rfl | rfl <;> rfl
  | i + 1, hi => by
    have ih := nuS_rule hR (out := out) hk i (by omega)
    have ih' : nuS R out i k = -1 ∨ ∃ r, r < i + 1 ∧ nuS R out i k = nI r ∧ (R.getD r ru0).1 = k := ih.imp id (fun ⟨r, a, b⟩ => ⟨r, by omega, b⟩)
    unfold nuS
    by_cases q1 : out.testBit i = true
    · rw [if_pos q1]; exact ih'
    · rw [if_neg q1]
      by_cases q2 : (R.getD i ru0).1 = k
      · rw [if_pos q2, if_pos hk]
        exact Or.inr ⟨i, by omega, rfl, q2⟩
      · rw [if_neg q2]; exact ih'
section STK
variable {l : Launch} {G : Gx} {d : Nat} {bc bs : Nat} {Φ : OutV → Mm → Prop}
theorem ct_setWithout (M : Mm) (I : Nat) (hI : IFsh M I) (hd : 0 < d) (h : Φ (.inl none) (m_row M (I + 1) (fun k => if k < 10 then nuS [] 0 0 k else m_i M (I + 1) k))) : Ct l G d mIf_setWithout bc bs [.ref I] M Φ := by
  obtain ⟨i0, i1, i2, i3, t1, t2, t3⟩ := hI
  refine Ct.of rfl (Nat.le_of_ble_eq_true rfl) ?_
  refine bIf_setWithout_0 M I ⟨i0, CallVC.cps0 hd ?_⟩
  rw [i1]
  refine ct_fill M (I + 1) _ 10 t1 (by decide) ?_
  have e1 : m_r (m_row M (I + 1) (fun j => if j < 10 then -1 else m_i M (I + 1) j)) I 0 = I + 1 := i1
  refine bIf_setWithout_8 _ I ⟨i0, by rw [e1, m_sh_row, t1], by rw [e1, m_sh_row, t1]; exact vp_in_dec rfl, by rw [e1, m_sh_row, t1]; exact vp_in_dec rfl, ?_⟩
  rw [e1, m_si_row, m_si_row, m_row_row, m_row_row]
  rw [m_row_congr M (I + 1) (g := fun k => if k < 10 then nuS [] 0 0 k else m_i M (I + 1) k) (fun j => ?_)]
  · exact h
  · show (if j = 6 then 0 else _) = _
    unfold nuS
    simp only [m_i_rowS]
    by_cases j6 : j = 6
    · subst j6; rfl
    · rw [if_neg j6, if_neg j6]
      show (if j = 5 then 999 else _) = _
      by_cases j5 : j = 5
      · subst j5; rfl
      · rw [if_neg j5, if_neg j5]
theorem ct_forgetAnswers (M : Mm) (I : Nat) (hI : IFsh M I) (hd : 0 < d) (h : ∀ M', FrS (fun a _ => a = I + 2 ∨ a = I + 3) M M' → (∀ j, j < 1088 → m_i M' (I + 2) j = 0 ∧ m_i M' (I + 3) j = 0) → Φ (.inl none) M') : Ct l G d mIf_forgetAnswers bc bs [.ref I] M Φ := by
  obtain ⟨i0, i1, i2, i3, t1, t2, t3⟩ := hI
  refine Ct.of rfl (Nat.le_of_ble_eq_true rfl) ?_
  refine bIf_forgetAnswers_0 M I ⟨i0, CallVC.cps0 hd ?_⟩
  rw [i2]
  refine ct_fillB M (I + 2) _ 1088 t2 (by decide) ?_
  refine bIf_forgetAnswers_8 _ I ⟨i0, CallVC.cps0 hd ?_⟩
  rw [show m_r (m_row M (I + 2) (fun j => if j < 1088 then vp_nar .byte 0 else m_i M (I + 2) j)) I 4 = I + 3 from i3]
  refine ct_fillB _ (I + 3) _ 1088 t3 (by decide) ?_
  refine bIf_forgetAnswers_16 _ I ?_
  refine h _ ((FrS.row (fun j => Or.inl rfl) _).tr (FrS.row (fun j => Or.inr rfl) _)) (fun j hj => ⟨?_, ?_⟩)
  · rw [m_i_row, if_neg (by omega), m_i_rowS, if_pos hj]
    rfl
  · rw [m_i_rowS, if_pos hj]
    rfl
end STK
