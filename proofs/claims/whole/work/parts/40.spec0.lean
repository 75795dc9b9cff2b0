/-! ===== the memory once more: a row of ints as a whole; frames; calls with what follows them ===== -/
def m_row (M : Mm) (a : Nat) (f : Nat → Int32) : Mm := (fun b j => if b = a then f j else M.1 b j, M.2)
theorem m_i_row (M : Mm) (a : Nat) (f : Nat → Int32) (b j : Nat) : m_i (m_row M a f) b j = if b = a then f j else m_i M b j := rfl
theorem m_i_rowS (M : Mm) (a : Nat) (f : Nat → Int32) (j : Nat) : m_i (m_row M a f) a j = f j := by rw [m_i_row, if_pos rfl]
theorem m_r_row (M : Mm) (a : Nat) (f : Nat → Int32) (b j : Nat) : m_r (m_row M a f) b j = m_r M b j := rfl
theorem m_l_row (M : Mm) (a : Nat) (f : Nat → Int32) (b j : Nat) : m_l (m_row M a f) b j = m_l M b j := rfl
theorem m_sh_row (M : Mm) (a : Nat) (f : Nat → Int32) (b : Nat) : m_sh (m_row M a f) b = m_sh M b := rfl
theorem m_nx_row (M : Mm) (a : Nat) (f : Nat → Int32) : m_nx (m_row M a f) = m_nx M := rfl
theorem m_si_row (M : Mm) (a k : Nat) (v : Int32) : m_si M a k v = m_row M a (fun j => if j = k then v else m_i M a j) := by
  refine Prod.ext (funext fun b => funext fun j => ?_) rfl
  show (if b = a ∧ j = k then v else M.1 b j) = if b = a then (if j = k then v else M.1 a j) else M.1 b j
  by_cases h : b = a
  · subst h
    by_cases h2 : j = k
    · rw [if_pos ⟨rfl, h2⟩, if_pos rfl, if_pos h2]
    · rw [if_neg (fun q => h2 q.2), if_pos rfl, if_neg h2]
  · rw [if_neg (fun q => h q.1), if_neg h]
theorem m_row_row (M : Mm) (a : Nat) (f g : Nat → Int32) : m_row (m_row M a f) a g = m_row M a g := by
  refine Prod.ext (funext fun b => funext fun j => ?_) rfl
  show (if b = a then g j else if b = a then f j else M.1 b j) = if b = a then g j else M.1 b j
  by_cases h : b = a
  · rw [if_pos h, if_pos h]
  · rw [if_neg h, if_neg h, if_neg h]
theorem m_row_self (M : Mm) (a : Nat) {f : Nat → Int32} (h : ∀ j, f j = m_i M a j) : m_row M a f = M := by
  refine Prod.ext (funext fun b => funext fun j => ?_) rfl
  show (if b = a then f j else M.1 b j) = M.1 b j
  by_cases e : b = a
  · subst e
    rw [if_pos rfl]
    exact h j
  · rw [if_neg e]
theorem m_row_congr (M : Mm) (a : Nat) {f g : Nat → Int32} (h : ∀ j, f j = g j) : m_row M a f = m_row M a g := by rw [funext h]
/-- M' is M but for ints of cells of which P holds -/
def Fr (P : Nat → Prop) (M M' : Mm) : Prop := (∀ a, ¬ P a → ∀ j, m_i M' a j = m_i M a j) ∧ (∀ a j, m_r M' a j = m_r M a j) ∧ (∀ a j, m_l M' a j = m_l M a j) ∧ (∀ a, m_sh M' a = m_sh M a) ∧ m_nx M' = m_nx M
theorem Fr.rf (P : Nat → Prop) (M : Mm) : Fr P M M := ⟨fun _ _ _ => rfl, fun _ _ => rfl, fun _ _ => rfl, fun _ => rfl, rfl⟩
theorem Fr.tr {P : Nat → Prop} {M M' M2 : Mm} (h : Fr P M M') (h2 : Fr P M' M2) : Fr P M M2 :=
  ⟨fun a ha j => (h2.1 a ha j).trans (h.1 a ha j), fun a j => (h2.2.1 a j).trans (h.2.1 a j), fun a j => (h2.2.2.1 a j).trans (h.2.2.1 a j), fun a => (h2.2.2.2.1 a).trans (h.2.2.2.1 a), h2.2.2.2.2.trans h.2.2.2.2⟩
theorem Fr.mono {P Q : Nat → Prop} {M M' : Mm} (h : Fr P M M') (hPQ : ∀ a, P a → Q a) : Fr Q M M' := ⟨fun a ha j => h.1 a (fun q => ha (hPQ a q)) j, h.2⟩
theorem Fr.si {P : Nat → Prop} {M : Mm} {a : Nat} (h : P a) (k : Nat) (v : Int32) : Fr P M (m_si M a k v) :=
  ⟨fun b hb j => by rw [m_i_si, if_neg (fun (q : b = a ∧ j = k) => hb (q.1.symm ▸ h))], fun _ _ => rfl, fun _ _ => rfl, fun _ => rfl, rfl⟩
theorem Fr.row {P : Nat → Prop} {M : Mm} {a : Nat} (h : P a) (f : Nat → Int32) : Fr P M (m_row M a f) :=
  ⟨fun b hb j => by rw [m_i_row, if_neg (fun (q : b = a) => hb (q.symm ▸ h))], fun _ _ => rfl, fun _ _ => rfl, fun _ => rfl, rfl⟩
section CPS
variable {l : Launch} {G : Gx} {d : Nat} {y : MR} {pc : Nat} {ls st : List Value} {M : Mm} {bc bs : Nat} {Φ : OutV → Mm → Prop}
/-- what follows a call -/
def contΦ (l : Launch) (G : Gx) (d : Nat) (y : MR) (pc2 : Nat) (ls st : List Value) (bc bs : Nat) (Φ : OutV → Mm → Prop) : OutV → Mm → Prop := fun o M' => match o with
  | .inl v => Ev l G d y pc2 ls (v.toList ++ st) M' bc bs Φ
  | .inr E => Φ (.inr E) M'
theorem CallVC.cps {pc2 bc2 bs2 d2 : Nat} {z : MR} {av : List Value} (hd : d2 < d) (h : Ct l G d2 z bc2 bs2 av M (contΦ l G d y pc2 ls st bc bs Φ)) : CallVC l G d y pc2 ls st z av M (bc2 + bc) (bs2 + bs) Φ :=
  ⟨d2, bc2, bs2, bc, bs, _, hd, rfl, rfl, h, fun v M' h => h, fun E M' h => h⟩
theorem CallVC.cps0 {pc2 : Nat} {z : MR} {av : List Value} (hd : 0 < d) (h : Ct l G (d - 1) z 0 0 av M (contΦ l G d y pc2 ls st bc bs Φ)) : CallVC l G d y pc2 ls st z av M bc bs Φ :=
  ⟨d - 1, 0, 0, bc, bs, _, by omega, (Nat.zero_add _).symm, (Nat.zero_add _).symm, h, fun v M' h => h, fun E M' h => h⟩
/-- of a callee that can't throw -/
def contN (l : Launch) (G : Gx) (d : Nat) (y : MR) (pc2 : Nat) (ls st : List Value) (bc bs : Nat) (Φ : OutV → Mm → Prop) : OutV → Mm → Prop := fun o M' => match o with
  | .inl v => Ev l G d y pc2 ls (v.toList ++ st) M' bc bs Φ
  | .inr _ => False
theorem CallVN.cps {pc2 bc2 bs2 d2 : Nat} {z : MR} {av : List Value} (hd : d2 < d) (h : Ct l G d2 z bc2 bs2 av M (contN l G d y pc2 ls st bc bs Φ)) : CallVN l G d y pc2 ls st z av M (bc2 + bc) (bs2 + bs) Φ :=
  ⟨d2, bc2, bs2, bc, bs, _, hd, rfl, rfl, h, fun v M' h => h, fun E M' h => h⟩
theorem CallVN.cps0 {pc2 : Nat} {z : MR} {av : List Value} (hd : 0 < d) (h : Ct l G (d - 1) z 0 0 av M (contN l G d y pc2 ls st bc bs Φ)) : CallVN l G d y pc2 ls st z av M bc bs Φ :=
  ⟨d - 1, 0, 0, bc, bs, _, by omega, (Nat.zero_add _).symm, (Nat.zero_add _).symm, h, fun v M' h => h, fun E M' h => h⟩
end CPS
theorem vp_in_dec {i : Int32} {n : Nat} (h : decide (¬ (i < 0 ∨ n ≤ i.toNatClampNeg)) = true) : vp_in i n := (of_decide_eq_true h : ¬ (i < 0 ∨ n ≤ i.toNatClampNeg))
theorem Fr.row1 {M : Mm} {a : Nat} (f : Nat → Int32) : Fr (fun b => b = a) M (m_row M a f) := Fr.row (P := fun b => b = a) rfl f
theorem Fr.si1 {M : Mm} {a : Nat} (k : Nat) (v : Int32) : Fr (fun b => b = a) M (m_si M a k v) := Fr.si (P := fun b => b = a) rfl k v
theorem nI_not_le {a b : Nat} (h : a < b) (hb : b < 2 ^ 31) : ¬ nI b ≤ nI a := nI_ge h hb
section SP0
variable {l : Launch} {G : Gx} {d : Nat} {bc bs : Nat} {Φ : OutV → Mm → Prop}
theorem ct_fill (M : Mm) (a : Nat) (v : Int32) (n : Nat) (hs : m_sh M a = (20, n)) (hn : n < 2 ^ 31) (h : Φ (.inl none) (m_row M a (fun j => if j < n then v else m_i M a j))) : Ct l G d mjA_fill bc bs [.ref a, .int v] M Φ := by
  refine Ct.of rfl (Nat.le_of_ble_eq_true rfl) ?_
  refine bjA_fill_0 M a v ⟨by rw [hs], ?_⟩
  have loop : ∀ k i, i + k = n → Ev l G d mjA_fill 5 [.ref a, .int v, .int (nI i), .int (nI n)] [] (m_row M a (fun j => if j < i then v else m_i M a j)) bc bs Φ := by
    intro k
    induction k with
    | zero =>
      intro i hi
      have : i = n := by omega
      subst this
      exact bjA_fill_5 _ a v _ _ ⟨fun _ => h, fun c => absurd (nI_le (Nat.le_refl _) hn) c⟩
    | succ k ih =>
      intro i hi
      refine bjA_fill_5 _ a v _ _ ⟨fun c => absurd c (nI_not_le (by omega) hn), fun _ => ⟨by rw [m_sh_row, hs], by rw [m_sh_row, hs]; exact vp_in_nI (by omega) hn, ?_⟩⟩
      have e : m_si (m_row M a (fun j => if j < i then v else m_i M a j)) a (nI i).toNatClampNeg v = m_row M a (fun j => if j < i + 1 then v else m_i M a j) := by
        rw [m_si_row, m_row_row, nI_clamp (by omega)]
        apply m_row_congr
        intro j
        rw [m_i_row, if_pos rfl]
        by_cases h1 : j = i
        · rw [if_pos h1, if_pos (by omega)]
        · rw [if_neg h1]
          by_cases h2 : j < i
          · rw [if_pos h2, if_pos (by omega)]
          · rw [if_neg h2, if_neg (by omega)]
      rw [e, nI_1]
      exact ih (i + 1) (by omega)
  have h0 := loop n 0 (by omega)
  rw [m_row_self M a (fun j => by rw [if_neg (Nat.not_lt_zero j)])] at h0
  rw [hs]
  exact h0
theorem ct_fillB (M : Mm) (a : Nat) (v : Int32) (n : Nat) (hs : m_sh M a = (21, n)) (hn : n < 2 ^ 31) (h : Φ (.inl none) (m_row M a (fun j => if j < n then vp_nar .byte v else m_i M a j))) : Ct l G d mjA_fill_2 bc bs [.ref a, .int v] M Φ := by
  refine Ct.of rfl (Nat.le_of_ble_eq_true rfl) ?_
  refine bjA_fill_2_0 M a v ⟨by rw [hs], ?_⟩
  have loop : ∀ k i, i + k = n → Ev l G d mjA_fill_2 5 [.ref a, .int v, .int (nI i), .int (nI n)] [] (m_row M a (fun j => if j < i then vp_nar .byte v else m_i M a j)) bc bs Φ := by
    intro k
    induction k with
    | zero =>
      intro i hi
      have : i = n := by omega
      subst this
      exact bjA_fill_2_5 _ a v _ _ ⟨fun _ => h, fun c => absurd (nI_le (Nat.le_refl _) hn) c⟩
    | succ k ih =>
      intro i hi
      refine bjA_fill_2_5 _ a v _ _ ⟨fun c => absurd c (nI_not_le (by omega) hn), fun _ => ⟨by rw [m_sh_row, hs], by rw [m_sh_row, hs]; exact vp_in_nI (by omega) hn, ?_⟩⟩
      have e : m_si (m_row M a (fun j => if j < i then vp_nar .byte v else m_i M a j)) a (nI i).toNatClampNeg (vp_nar .byte v) = m_row M a (fun j => if j < i + 1 then vp_nar .byte v else m_i M a j) := by
        rw [m_si_row, m_row_row, nI_clamp (by omega)]
        apply m_row_congr
        intro j
        rw [m_i_row, if_pos rfl]
        by_cases h1 : j = i
        · rw [if_pos h1, if_pos (by omega)]
        · rw [if_neg h1]
          by_cases h2 : j < i
          · rw [if_pos h2, if_pos (by omega)]
          · rw [if_neg h2, if_neg (by omega)]
      rw [e, nI_1]
      exact ih (i + 1) (by omega)
  have h0 := loop n 0 (by omega)
  rw [m_row_self M a (fun j => by rw [if_neg (Nat.not_lt_zero j)])] at h0
  rw [hs]
  exact h0
end SP0
