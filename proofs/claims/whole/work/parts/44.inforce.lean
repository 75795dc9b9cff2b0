/-! ===== InForce: must and worth, with what was kept of them ===== -/
def IFok (M : Mm) (I L P : Nat) : Prop := (m_sh M I).1 = 3 ∧ m_r M I 0 = I + 1 ∧ m_r M I 1 = L ∧ m_r M I 2 = P ∧ m_r M I 3 = I + 2 ∧ m_r M I 4 = I + 3 ∧ m_sh M (I + 1) = (20, 10) ∧ m_sh M (I + 2) = (21, 1088) ∧ m_sh M (I + 3) = (21, 1088)
theorem IFok.of {M M' : Mm} {I L P : Nat} (h : IFok M I L P) (hr : ∀ a j, m_r M' a j = m_r M a j) (hs : ∀ a, m_sh M' a = m_sh M a) : IFok M' I L P := by
  unfold IFok
  rw [hs, hs, hs, hs, hr, hr, hr, hr, hr]
  exact h
/-- rule r of L is a formula of c0 steps from i0 on, whose value is v -/
def ruleS (M : Mm) (L n : Nat) (f : Nat → Nat → Int32) (r : Nat) (v : Nat → Nat → Nat → Int32) : Prop := ∃ i0 c0, r < 10 ∧ m_i M (L + 3) r = nI i0 ∧ m_i M (L + 4) r = nI (i0 + c0) ∧ i0 + c0 ≤ 500 ∧ okD (m_i M (L + 5)) i0 c0 0 ∧
  ∀ g o h, g < n → o < n → h < 17 → (evS (f g) (f o) (nI h) (m_i M (L + 5)) i0 c0 []).headD 0 = v g o h
def heldS (v : Int32) : Int32 := if (0 : Int32) < (if v < 99 then v else 99) then (if v < 99 then v else 99) else 0
/-- nu: the numbers in force by kinds; must, worth: what they say -/
def IFinv (M : Mm) (I L P n : Nat) (f : Nat → Nat → Int32) (by_ : Nat → Nat) (nu : Nat → Int32) (must : Nat → Nat → Nat → Bool) (worth : Nat → Nat → Nat → Int32) : Prop :=
  IFok M I L P ∧ LAok M L ∧ PEok M P ∧ PErep M P n f by_ ∧ (∀ k, k < 10 → m_i M (I + 1) k = nu k) ∧
  ((nu 9 = -1 ∧ ∀ g o h, must g o h = false) ∨ ∃ r, nu 9 = nI r ∧ ruleS M L n f r (fun g o h => if must g o h then 1 else 0)) ∧
  ((nu 8 = -1 ∧ ∀ g o h, worth g o h = 1) ∨ ∃ r v, nu 8 = nI r ∧ ruleS M L n f r v ∧ ∀ g o h, worth g o h = heldS (v g o h)) ∧
  (∀ g o h, g < n → o < n → h < 17 → m_i M (I + 2) ((g * 8 + o) * 17 + h) = 0 ∨ m_i M (I + 2) ((g * 8 + o) * 17 + h) = if must g o h then 2 else 1) ∧
  (∀ g o h, g < n → o < n → h < 17 → m_i M (I + 3) ((g * 8 + o) * 17 + h) = 0 ∨ m_i M (I + 3) ((g * 8 + o) * 17 + h) = worth g o h + 1)
theorem ruleS.fr {M M' : Mm} {L n : Nat} {f : Nat → Nat → Int32} {r : Nat} {v : Nat → Nat → Nat → Int32} (h : ruleS M L n f r v) (h3 : ∀ j, m_i M' (L + 3) j = m_i M (L + 3) j) (h4 : ∀ j, m_i M' (L + 4) j = m_i M (L + 4) j) (h5 : ∀ j, m_i M' (L + 5) j = m_i M (L + 5) j) : ruleS M' L n f r v := by
  obtain ⟨i0, c0, a1, a2, a3, a4, a5, a6⟩ := h
  have e5 : m_i M' (L + 5) = m_i M (L + 5) := funext h5
  exact ⟨i0, c0, a1, by rw [h3]; exact a2, by rw [h4]; exact a3, a4, by rw [e5]; exact a5, by rw [e5]; exact a6⟩
theorem IFinv.fr {M M' : Mm} {I L P n : Nat} {f : Nat → Nat → Int32} {by_ : Nat → Nat} {nu : Nat → Int32} {must : Nat → Nat → Nat → Bool} {worth : Nat → Nat → Nat → Int32} {Q : Nat → Prop} (h : IFinv M I L P n f by_ nu must worth) (hF : Fr Q M M')
    (hQ : ∀ a, (a = I + 1 ∨ a = I + 2 ∨ a = I + 3 ∨ a = L + 3 ∨ a = L + 4 ∨ a = L + 5 ∨ a = P ∨ a = P + 1 ∨ a = P + 2) → ¬ Q a) : IFinv M' I L P n f by_ nu must worth := by
  obtain ⟨a1, a2, a3, a4, a5, a6, a7, a8, a9⟩ := h
  have e : ∀ a, (a = I + 1 ∨ a = I + 2 ∨ a = I + 3 ∨ a = L + 3 ∨ a = L + 4 ∨ a = L + 5 ∨ a = P ∨ a = P + 1 ∨ a = P + 2) → ∀ j, m_i M' a j = m_i M a j := fun a ha j => hF.1 a (hQ a ha) j
  have e3 := e (L + 3) (by simp)
  have e4 := e (L + 4) (by simp)
  have e5 := e (L + 5) (by simp)
  refine ⟨a1.of hF.2.1 hF.2.2.2.1, a2.of hF.2.1 hF.2.2.2.1, a3.of hF.2.1 hF.2.2.2.1, a4.fr hF (hQ _ (by simp)) (hQ _ (by simp)) (hQ _ (by simp)), fun k hk => by rw [e (I + 1) (by simp)]; exact a5 k hk, ?_, ?_, fun g o h b1 b2 b3 => by rw [e (I + 2) (by simp)]; exact a8 g o h b1 b2 b3, fun g o h b1 b2 b3 => by rw [e (I + 3) (by simp)]; exact a9 g o h b1 b2 b3⟩
  · exact a6.imp id (fun ⟨r, b1, b2⟩ => ⟨r, b1, b2.fr e3 e4 e5⟩)
  · exact a7.imp id (fun ⟨r, v, b1, b2, b3⟩ => ⟨r, v, b1, b2.fr e3 e4 e5, b3⟩)
theorem ix17 {g o h : Nat} (hg : g < 8) (ho : o < 8) (hh : h < 17) : (nI g * 8 + nI o) * 17 + nI h = nI ((g * 8 + o) * 17 + h) ∧ (g * 8 + o) * 17 + h < 1088 := by
  refine ⟨?_, by omega⟩
  rw [show (8 : Int32) = nI 8 from rfl, show (17 : Int32) = nI 17 from rfl, pk_mul, nI_add, pk_mul, nI_add]
theorem ix17_inj {g o h g' o' h' : Nat} (ho : o < 8) (hh : h < 17) (ho' : o' < 8) (hh' : h' < 17) (e : (g * 8 + o) * 17 + h = (g' * 8 + o') * 17 + h') : g = g' ∧ o = o' ∧ h = h' := by omega
section SIF
variable {l : Launch} {G : Gx} {d : Nat} {bc bs : Nat} {Φ : OutV → Mm → Prop}
theorem ct_mustOffer (M : Mm) (I L P n : Nat) (f : Nat → Nat → Int32) (by_ : Nat → Nat) (nu : Nat → Int32) (must : Nat → Nat → Nat → Bool) (worth : Nat → Nat → Nat → Int32) (hI : IFinv M I L P n f by_ nu must worth) (hPL : P + 2 < L) (hLI : L + 6 < I) (g o h : Nat) (hg : g < n) (ho : o < n) (hh : h < 17) (hd : 1 < d)
    (hq : ∀ M', Fr (fun a => a = I + 2 ∨ a = L + 6) M M' → IFinv M' I L P n f by_ nu must worth → Φ (.inl (some (.int (if must g o h then 1 else 0)))) M') : Ct l G d mIf_mustOffer bc bs [.ref I, .int (nI g), .int (nI o), .int (nI h)] M Φ := by
  obtain ⟨⟨i0, i1, i2, i3, i4, i5, s1, s2, s3⟩, a2, a3, a4, a5, a6, a7, a8, a9⟩ := id hI
  have hn8 := a4.2.1
  obtain ⟨e1, e2⟩ := ix17 (g := g) (o := o) (h := h) (by omega) (by omega) hh
  have hcl : (nI ((g * 8 + o) * 17 + h)).toNatClampNeg = (g * 8 + o) * 17 + h := nI_clamp (by omega)
  have hin : vp_in (nI ((g * 8 + o) * 17 + h)) 1088 := vp_in_nI e2 (by decide)
  -- behind the asking
  have hlast : ∀ M', Fr (fun a => a = I + 2 ∨ a = L + 6) M M' → IFinv M' I L P n f by_ nu must worth → m_i M' (I + 2) ((g * 8 + o) * 17 + h) = (if must g o h then 2 else 1) → ∀ u : Int32, Ev l G d mIf_mustOffer 67 [.ref I, .int (nI g), .int (nI o), .int (nI h), .int (nI ((g * 8 + o) * 17 + h))] [] M' bc bs Φ := fun M' hF hI' hv _ => by
    obtain ⟨⟨j0, j1, j2, j3, j4, j5, t1, t2, t3⟩, -⟩ := id hI'
    refine bIf_mustOffer_67 M' I _ _ _ _ ⟨j0, by rw [j4, t2], by rw [j4, t2]; exact hin, fun c => ?_, fun c => ?_⟩
    · rw [j4, hcl, hv] at c
      have := hq M' hF hI'
      cases hm : must g o h with
      | true => rw [hm] at c; exact absurd c (by decide)
      | false => rw [hm] at this; exact this
    · rw [j4, hcl, hv] at c
      have := hq M' hF hI'
      cases hm : must g o h with
      | false => rw [hm] at c; exact absurd rfl c
      | true => rw [hm] at this; exact this
  refine Ct.of rfl (Nat.le_of_ble_eq_true rfl) ?_
  refine bIf_mustOffer_0 M I _ _ _ ⟨i0, by rw [i1, s1], by rw [i1, s1]; exact vp_in_dec rfl, fun c => ?_, fun c => ?_⟩
  · rw [e1]
    refine ⟨by rw [i4, s2], by rw [i4, s2]; exact hin, fun c2 => ?_, fun c2 => ⟨by rw [i2]; exact a2.1, CallVC.cps0 (by omega) ?_⟩⟩
    · rw [i4, hcl] at c2
      exact hlast M (Fr.rf _ M) hI ((a8 g o h hg ho hh).resolve_left c2) 0
    · rw [i1, show (9 : Int32).toNatClampNeg = 9 from rfl, a5 9 (by omega)] at c ⊢
      rcases a6 with ⟨b1, -⟩ | ⟨r, b1, b2⟩
      · exact absurd b1 c
      · obtain ⟨k0, c0, b3, b4, b5, b6, b7, b8⟩ := id b2
        rw [b1, i2, i3, i4]
        refine ct_valueOf M L P n f by_ a2 a3 a4 (Or.inl hPL) r k0 c0 g o b3 hg ho (nI h) b4 b5 b6 b7 (by omega) (fun w => ?_)
        rw [b8 g o h hg ho hh]
        have hFw : Fr (fun a => a = I + 2 ∨ a = L + 6) M (m_row M (L + 6) w) := Fr.row (Or.inr rfl) w
        refine bIf_mustOffer_63 _ I _ _ _ _ (I + 2) _ _ ⟨congrArg Prod.fst s2, by rw [m_sh_row, s2]; exact hin, ?_⟩
        rw [hcl]
        have hval : vp_nar .byte (((if must g o h = true then (1 : Int32) else 0) + 1).toInt8.toInt32) = if must g o h then 2 else 1 := by
          cases must g o h <;> decide
        rw [hval]
        have hF2 : Fr (fun a => a = I + 2 ∨ a = L + 6) M (m_si (m_row M (L + 6) w) (I + 2) ((g * 8 + o) * 17 + h) (if must g o h then 2 else 1)) := hFw.tr (Fr.si (Or.inl rfl) _ _)
        have hI1 : IFinv (m_row M (L + 6) w) I L P n f by_ nu must worth := hI.fr (Fr.row1 w) (by intro a ha; omega)
        refine hlast _ hF2 ⟨hI1.1.of (fun _ _ => rfl) (fun _ => rfl), hI1.2.1.of (fun _ _ => rfl) (fun _ => rfl), hI1.2.2.1.of (fun _ _ => rfl) (fun _ => rfl), hI1.2.2.2.1.fr (Fr.si1 _ _) (by omega) (by omega) (by omega), fun k hk => by rw [m_i_si, if_neg (by omega)]; exact hI1.2.2.2.2.1 k hk, hI1.2.2.2.2.2.1.imp id (fun ⟨r, q1, q2⟩ => ⟨r, q1, q2.fr (fun j => by rw [m_i_si, if_neg (by omega)]) (fun j => by rw [m_i_si, if_neg (by omega)]) (fun j => by rw [m_i_si, if_neg (by omega)])⟩), hI1.2.2.2.2.2.2.1.imp id (fun ⟨r, v, q1, q2, q3⟩ => ⟨r, v, q1, q2.fr (fun j => by rw [m_i_si, if_neg (by omega)]) (fun j => by rw [m_i_si, if_neg (by omega)]) (fun j => by rw [m_i_si, if_neg (by omega)]), q3⟩), fun g' o' h' q1 q2 q3 => ?_, fun g' o' h' q1 q2 q3 => by rw [m_i_si, if_neg (by omega)]; exact hI1.2.2.2.2.2.2.2.2 g' o' h' q1 q2 q3⟩ (by rw [m_i_si, if_pos ⟨rfl, rfl⟩]) 0
        rw [m_i_si]
        by_cases e : (g' * 8 + o') * 17 + h' = (g * 8 + o) * 17 + h
        · obtain ⟨rfl, rfl, rfl⟩ := ix17_inj (by omega) q3 (by omega) hh e
          rw [if_pos ⟨rfl, rfl⟩]
          exact Or.inr rfl
        · rw [if_neg (fun q => e q.2)]
          exact hI1.2.2.2.2.2.2.2.1 g' o' h' q1 q2 q3
  · rw [i1, show (9 : Int32).toNatClampNeg = 9 from rfl, a5 9 (by omega)] at c
    rcases a6 with ⟨b1, b2⟩ | ⟨r, b1, b2⟩
    · have := hq M (Fr.rf _ M) hI
      rw [b2] at this
      exact this
    · obtain ⟨k0, c0, b3, -⟩ := b2
      rw [b1] at c
      have h9 : (nI r).toInt = (r : Int) := nI_toInt (by omega)
      rw [c] at h9
      have h10 : ((-1 : Int32)).toInt = -1 := rfl
      omega
theorem held_rng (v : Int32) : 0 ≤ (heldS v).toInt ∧ (heldS v).toInt ≤ 99 := by
  unfold heldS
  have hz : ((0 : Int32)).toInt = 0 := rfl
  have hn : ((99 : Int32)).toInt = 99 := rfl
  by_cases h1 : v < 99
  · rw [if_pos h1]
    by_cases h2 : (0 : Int32) < v
    · rw [if_pos h2]
      have a := Int32.lt_iff_toInt_lt.mp h1
      have b := Int32.lt_iff_toInt_lt.mp h2
      omega
    · rw [if_neg h2]
      omega
  · rw [if_neg h1, if_pos (by decide)]
    omega
theorem byte_small : ∀ k : Nat, k ≤ 99 → vp_nar .byte ((nI k + 1).toInt8.toInt32) = nI k + 1 := by
  have h : ∀ k, k < 100 → vp_nar .byte ((nI k + 1).toInt8.toInt32) = nI k + 1 := by decide +kernel
  exact fun k hk => h k (by omega)
theorem held_byte (v : Int32) : vp_nar .byte ((heldS v + 1).toInt8.toInt32) = heldS v + 1 ∧ heldS v + 1 ≠ 0 := by
  obtain ⟨h1, h2⟩ := held_rng v
  obtain ⟨k, hk, e⟩ : ∃ k : Nat, k ≤ 99 ∧ heldS v = nI k := ⟨(heldS v).toInt.toNat, by omega, by
    apply Int32.toInt_inj.mp
    rw [nI_toInt (by omega)]
    omega⟩
  rw [e]
  refine ⟨byte_small k hk, ?_⟩
  have h3 : ∀ k, k < 100 → nI k + 1 ≠ 0 := by decide +kernel
  exact h3 k (by omega)
theorem ct_passWorth (M : Mm) (I L P n : Nat) (f : Nat → Nat → Int32) (by_ : Nat → Nat) (nu : Nat → Int32) (must : Nat → Nat → Nat → Bool) (worth : Nat → Nat → Nat → Int32) (hI : IFinv M I L P n f by_ nu must worth) (hPL : P + 2 < L) (hLI : L + 6 < I) (g o h : Nat) (hg : g < n) (ho : o < n) (hh : h < 17) (hd : 1 < d)
    (hq : ∀ M', Fr (fun a => a = I + 3 ∨ a = L + 6) M M' → IFinv M' I L P n f by_ nu must worth → Φ (.inl (some (.int (worth g o h)))) M') : Ct l G d mIf_passWorth bc bs [.ref I, .int (nI g), .int (nI o), .int (nI h)] M Φ := by
  obtain ⟨⟨i0, i1, i2, i3, i4, i5, s1, s2, s3⟩, a2, a3, a4, a5, a6, a7, a8, a9⟩ := id hI
  have hn8 := a4.2.1
  obtain ⟨e1, e2⟩ := ix17 (g := g) (o := o) (h := h) (by omega) (by omega) hh
  have hcl : (nI ((g * 8 + o) * 17 + h)).toNatClampNeg = (g * 8 + o) * 17 + h := nI_clamp (by omega)
  have hin : vp_in (nI ((g * 8 + o) * 17 + h)) 1088 := vp_in_nI e2 (by decide)
  have hlast : ∀ M', Fr (fun a => a = I + 3 ∨ a = L + 6) M M' → IFinv M' I L P n f by_ nu must worth → m_i M' (I + 3) ((g * 8 + o) * 17 + h) = worth g o h + 1 → ∀ u : Value, Ev l G d mIf_passWorth 80 [.ref I, .int (nI g), .int (nI o), .int (nI h), .int (nI ((g * 8 + o) * 17 + h)), u] [] M' bc bs Φ := fun M' hF hI' hv u => by
    obtain ⟨⟨j0, j1, j2, j3, j4, j5, t1, t2, t3⟩, -⟩ := id hI'
    refine bIf_passWorth_80 M' I _ _ _ _ u ⟨j0, by rw [j5, t3], by rw [j5, t3]; exact hin, ?_⟩
    rw [j5, hcl, hv, show worth g o h + 1 - 1 = worth g o h by simp]
    exact hq M' hF hI'
  refine Ct.of rfl (Nat.le_of_ble_eq_true rfl) ?_
  refine bIf_passWorth_0 M I _ _ _ ⟨i0, by rw [i1, s1], by rw [i1, s1]; exact vp_in_dec rfl, fun c => ?_, fun c => ?_⟩
  · rw [e1]
    refine ⟨by rw [i5, s3], by rw [i5, s3]; exact hin, fun c2 => ?_, fun c2 => ⟨by rw [i2]; exact a2.1, CallVC.cps0 (by omega) ?_⟩⟩
    · rw [i5, hcl] at c2
      exact hlast M (Fr.rf _ M) hI ((a9 g o h hg ho hh).resolve_left c2) _
    · rw [i1, show (8 : Int32).toNatClampNeg = 8 from rfl, a5 8 (by omega)] at c ⊢
      rcases a7 with ⟨b1, -⟩ | ⟨r, v, b1, b2, bw⟩
      · exact absurd b1 c
      · obtain ⟨k0, c0, b3, b4, b5, b6, b7, b8⟩ := id b2
        rw [b1, i2, i3]
        refine ct_valueOf M L P n f by_ a2 a3 a4 (Or.inl hPL) r k0 c0 g o b3 hg ho (nI h) b4 b5 b6 b7 (by omega) (fun w => ?_)
        rw [b8 g o h hg ho hh]
        have hFw : Fr (fun a => a = I + 3 ∨ a = L + 6) M (m_row M (L + 6) w) := Fr.row (Or.inr rfl) w
        have f4 : m_r (m_row M (L + 6) w) I 4 = I + 3 := i5
        refine bIf_passWorth_57 _ I _ _ _ _ _ _ ⟨i0, by omega, by rw [f4]; exact congrArg Prod.fst s3, by rw [f4, m_sh_row, s3]; exact hin, ?_⟩
        rw [f4, hcl]
        have hval : vp_nar .byte (((if (0 : Int32) < (if v g o h < 99 then v g o h else 99) then (if v g o h < 99 then v g o h else 99) else 0) + 1).toInt8.toInt32) = worth g o h + 1 := by
          rw [bw]
          exact (held_byte (v g o h)).1
        rw [hval]
        have hF2 : Fr (fun a => a = I + 3 ∨ a = L + 6) M (m_si (m_row M (L + 6) w) (I + 3) ((g * 8 + o) * 17 + h) (worth g o h + 1)) := hFw.tr (Fr.si (Or.inl rfl) _ _)
        have hI1 : IFinv (m_row M (L + 6) w) I L P n f by_ nu must worth := hI.fr (Fr.row1 w) (by intro a ha; omega)
        refine hlast _ hF2 ⟨hI1.1.of (fun _ _ => rfl) (fun _ => rfl), hI1.2.1.of (fun _ _ => rfl) (fun _ => rfl), hI1.2.2.1.of (fun _ _ => rfl) (fun _ => rfl), hI1.2.2.2.1.fr (Fr.si1 _ _) (by omega) (by omega) (by omega), fun k hk => by rw [m_i_si, if_neg (by omega)]; exact hI1.2.2.2.2.1 k hk, hI1.2.2.2.2.2.1.imp id (fun ⟨r, q1, q2⟩ => ⟨r, q1, q2.fr (fun j => by rw [m_i_si, if_neg (by omega)]) (fun j => by rw [m_i_si, if_neg (by omega)]) (fun j => by rw [m_i_si, if_neg (by omega)])⟩), hI1.2.2.2.2.2.2.1.imp id (fun ⟨r, v, q1, q2, q3⟩ => ⟨r, v, q1, q2.fr (fun j => by rw [m_i_si, if_neg (by omega)]) (fun j => by rw [m_i_si, if_neg (by omega)]) (fun j => by rw [m_i_si, if_neg (by omega)]), q3⟩), fun g' o' h' q1 q2 q3 => by rw [m_i_si, if_neg (by omega)]; exact hI1.2.2.2.2.2.2.2.1 g' o' h' q1 q2 q3, fun g' o' h' q1 q2 q3 => ?_⟩ (by rw [m_i_si, if_pos ⟨rfl, rfl⟩]) _
        rw [m_i_si]
        by_cases e : (g' * 8 + o') * 17 + h' = (g * 8 + o) * 17 + h
        · obtain ⟨rfl, rfl, rfl⟩ := ix17_inj (by omega) q3 (by omega) hh e
          rw [if_pos ⟨rfl, rfl⟩]
          exact Or.inr rfl
        · rw [if_neg (fun q => e q.2)]
          exact hI1.2.2.2.2.2.2.2.2 g' o' h' q1 q2 q3
  · rw [i1, show (8 : Int32).toNatClampNeg = 8 from rfl, a5 8 (by omega)] at c
    rcases a7 with ⟨b1, b2⟩ | ⟨r, v, b1, b2, -⟩
    · have := hq M (Fr.rf _ M) hI
      rw [b2] at this
      exact this
    · obtain ⟨k0, c0, b3, -⟩ := b2
      rw [b1] at c
      have h9 : (nI r).toInt = (r : Int) := nI_toInt (by omega)
      rw [c] at h9
      have h10 : ((-1 : Int32)).toInt = -1 := rfl
      omega
end SIF
