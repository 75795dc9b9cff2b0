/-! ===== the reference: row ===== -/
def XQ : Nat → Nat → Prop := fun a j => (a = 206 ∧ (j = 1 ∨ j = 2 ∨ j = 4 ∨ j = 5 ∨ j = 6 ∨ j = 7 ∨ j = 8 ∨ j = 10)) ∨ (209 ≤ a ∧ a < 209 + 8)
theorem tk_0 {n : Nat} {tp : Nat → Nat} {p : Nat} : tk n tp p = 0 ↔ n ≤ p := by
  unfold tk
  by_cases a : n ≤ p
  · rw [if_pos a]; exact ⟨fun _ => a, fun _ => rfl⟩
  · rw [if_neg a]
    refine ⟨fun z => ?_, fun z => absurd z a⟩
    split at z
    · omega
    · split at z <;> omega
theorem clS_lim {n : Nat} {tp : Nat → Nat} {k p np : Nat} {F : Nat → Nat → Nat} (h : (clS n tp k p np F).1 = 0) : k < 40 := by
  refine Classical.byContradiction (fun z => ?_)
  unfold clS at h
  split at h
  · rw [if_pos (Or.inl (by omega))] at h
    exact absurd h (by show ¬ 3 = 0; omega)
  · exact absurd h (by show ¬ 1 = 0; omega)
section RR2
variable {l : Launch} {G : Gx} {d : Nat} {bc bs : Nat} {Φ : OutV → Mm → Prop}
theorem ct_starts (M : Mm) (hS : RS M) (n : Nat) (h : ∀ M', FrS (fun a j => a = 206 ∧ (j = 1 ∨ j = 2 ∨ j = 4 ∨ j = 5 ∨ j = 6 ∨ j = 7 ∨ j = 8)) M M' → m_i M' 206 1 = 0 → m_i M' 206 2 = nI n → m_i M' 206 4 = 0 → m_i M' 206 5 = 0 → m_i M' 206 6 = -1 → m_i M' 206 7 = 0 → m_i M' 206 8 = 0 → Φ (.inl none) M') : Ct l G d mRe_starts bc bs [.ref 206, .int (nI n)] M Φ := by
  have st : ∀ (M1 M2 : Mm), RS M1 → (∀ (a j : Nat), m_r M2 a j = m_r M1 a j) → True := fun _ _ _ _ => trivial
  refine Ct.of rfl (Nat.le_of_ble_eq_true rfl) (bRe_starts_0 _ _ _ ⟨hS.c, ?_⟩)
  have F1 : FrS (fun a j => a = 206 ∧ (j = 1 ∨ j = 2 ∨ j = 4 ∨ j = 5 ∨ j = 6 ∨ j = 7 ∨ j = 8)) M (m_si (m_si M 206 1 0) 206 2 (nI n)) := (FrS.si (P := fun a j => a = 206 ∧ (j = 1 ∨ j = 2 ∨ j = 4 ∨ j = 5 ∨ j = 6 ∨ j = 7 ∨ j = 8)) ⟨rfl, by omega⟩ _).tr (FrS.si ⟨rfl, by omega⟩ _)
  have a1 : m_i (m_si (m_si M 206 1 0) 206 2 (nI n)) 206 1 = 0 := by rw [m_i_si, if_neg (by omega), m_i_si, if_pos ⟨rfl, rfl⟩]
  have a2 : m_i (m_si (m_si M 206 1 0) 206 2 (nI n)) 206 2 = nI n := by rw [m_i_si, if_pos ⟨rfl, rfl⟩]
  generalize m_si (m_si M 206 1 0) 206 2 (nI n) = M1 at F1 a1 a2 ⊢
  refine bRe_starts_10 _ _ _ ⟨(hS.fr F1).c, ?_⟩
  have F2 : FrS (fun a j => a = 206 ∧ (j = 4 ∨ j = 5)) M1 (m_si (m_si M1 206 4 0) 206 5 0) := (FrS.si (P := fun a j => a = 206 ∧ (j = 4 ∨ j = 5)) ⟨rfl, by omega⟩ _).tr (FrS.si ⟨rfl, by omega⟩ _)
  have a4 : m_i (m_si (m_si M1 206 4 0) 206 5 0) 206 4 = 0 := by rw [m_i_si, if_neg (by omega), m_i_si, if_pos ⟨rfl, rfl⟩]
  have a5 : m_i (m_si (m_si M1 206 4 0) 206 5 0) 206 5 = 0 := by rw [m_i_si, if_pos ⟨rfl, rfl⟩]
  generalize m_si (m_si M1 206 4 0) 206 5 0 = M2 at F2 a4 a5 ⊢
  have F12 := F1.tr (F2.mono (fun a j k => ⟨k.1, by omega⟩))
  refine bRe_starts_20 _ _ _ ⟨(hS.fr F12).c, ?_⟩
  have F3 : FrS (fun a j => a = 206 ∧ (j = 6 ∨ j = 7)) M2 (m_si (m_si M2 206 6 (-1)) 206 7 0) := (FrS.si (P := fun a j => a = 206 ∧ (j = 6 ∨ j = 7)) ⟨rfl, by omega⟩ _).tr (FrS.si ⟨rfl, by omega⟩ _)
  have a6 : m_i (m_si (m_si M2 206 6 (-1)) 206 7 0) 206 6 = -1 := by rw [m_i_si, if_neg (by omega), m_i_si, if_pos ⟨rfl, rfl⟩]
  have a7 : m_i (m_si (m_si M2 206 6 (-1)) 206 7 0) 206 7 = 0 := by rw [m_i_si, if_pos ⟨rfl, rfl⟩]
  generalize m_si (m_si M2 206 6 (-1)) 206 7 0 = M3 at F3 a6 a7 ⊢
  have F13 := F12.tr (F3.mono (fun a j k => ⟨k.1, by omega⟩))
  refine bRe_starts_30 _ _ _ ⟨(hS.fr F13).c, ?_⟩
  have F4 : FrS (fun a j => a = 206 ∧ j = 8) M3 (m_si M3 206 8 0) := FrS.si (P := fun a j => a = 206 ∧ j = 8) ⟨rfl, rfl⟩ _
  have a8 : m_i (m_si M3 206 8 0) 206 8 = 0 := by rw [m_i_si, if_pos ⟨rfl, rfl⟩]
  generalize m_si M3 206 8 0 = M4 at F4 a8 ⊢
  exact h M4 (F13.tr (F4.mono (fun a j k => ⟨k.1, by omega⟩))) (by rw [F4.1 _ _ (by omega), F3.1 _ _ (by omega), F2.1 _ _ (by omega)]; exact a1) (by rw [F4.1 _ _ (by omega), F3.1 _ _ (by omega), F2.1 _ _ (by omega)]; exact a2) (by rw [F4.1 _ _ (by omega), F3.1 _ _ (by omega)]; exact a4) (by rw [F4.1 _ _ (by omega), F3.1 _ _ (by omega)]; exact a5) (by rw [F4.1 _ _ (by omega)]; exact a6) (by rw [F4.1 _ _ (by omega)]; exact a7) a8
theorem ct_blanksF (M : Mm) {n : Nat} {tp : Nat → Nat} {fc fp q : Nat} (hF : RFt M n tp fc fp q) (hd : 0 < d) (h : ∀ M' q', FrS X4 M M' → RFt M' n tp fc fp q' → Φ (.inl none) M') : Ct l G d mRe_blanks bc bs [.ref 206] M Φ := by
  have hn := hF.1.2.2.1
  have hb := fun j hj => (hF.1.2.2.2 j hj).2
  have hq := hF.2.2.2.2.2
  refine Ct.of rfl (Nat.le_of_ble_eq_true rfl) ?_
  by_cases c : q ≤ n
  · refine ct_blanks M hF.1 hd q M c (FrS.rf _ _) hF.2.2.2.2.1 (fun M' F e => h M' _ F (hF.fr F (by unfold X4; omega) (fun j => by unfold X4; omega) (by unfold X4; omega) (by unfold X4; omega) e ?_))
    have := rn_le (n := n) (tp := tp) (q := isb) q c
    omega
  · refine bRe_blanks_0 _ _ ⟨hF.1.1.c, CallVC.cps0 (by omega) ?_⟩
    rw [hF.2.2.2.2.1]
    refine ct_byteAt M hF.1 q (by omega) ?_
    refine bRe_blanks_8 _ _ _ ⟨fun _ => h M q (FrS.rf _ _) hF, fun z => absurd ((bt_b (p := q) hb (c := 32) (by omega)).mp z).1 (by omega)⟩
/-- CLAUSE by CLAUSE -/
theorem row_loop (M : Mm) {n : Nat} {tp : Nat → Nat} (hd : 4 < d) (x1 : Int32) (u2 u3 : Value) (T : RR)
    (h1 : T.1 = 0 → ∀ M' q, FrS XPs M M' → RA M' n tp q → RPp M' T.2.2.1 T.2.2.2 → Ev l G d mRe_row 75 [.ref 206, .int x1, u2, u3] [] M' bc bs Φ)
    (h0 : ¬ T.1 = 0 → ∀ M' q, FrS XP M M' → RFt M' n tp T.1 T.2.1 q → Ev l G d mRe_row 75 [.ref 206, .int x1, u2, u3] [] M' bc bs Φ) :
    ∀ c k p np F M1, k + c = 41 → k ≤ 40 → FrS XPs M M1 → RA M1 n tp p → rn n tp isb p = p → RPp M1 np F → m_i M1 206 7 = nI k → rwF n tp c k p np F = T → Ev l G d mRe_row 46 [.ref 206, .int x1, u2, u3] [] M1 bc bs Φ := by
  intro c
  induction c with
  | zero => intro k p np F M1 hk hk2; omega
  | succ c ih =>
    intro k p np F M1 hk hk2 F1 hA hp hP h7 hT
    have hn := hA.1.2.2.1
    have hpn := hA.2.2.1
    rw [rwF_succ] at hT
    have e2 : nI n ≤ nI p ↔ tk n tp p = 0 := by rw [tk_0]; exact nI_leI (by omega) (by omega)
    refine bRe_row_46 _ _ _ _ _ ⟨hA.1.1.c, fun z => absurd hA.2.2.2 z, fun _ => ?_⟩
    rw [hA.1.2.1, hA.2.1, e2]
    refine ⟨fun z => ?_, fun z => ?_⟩
    · rw [if_pos z] at hT
      subst hT
      exact h1 rfl M1 p F1 hA hP
    · rw [if_neg z] at hT
      refine CallVC.cps0 (by omega) (ct_clause M1 hA hp hP h7 hk2 (by omega) ⟨fun e M2 q2 F2 hA2 hq hP2 h72 => ?_, fun e M2 q2 F2 hF => ?_⟩)
      · rw [if_pos e] at hT
        have := clS_lim e
        refine bRe_row_68 _ _ _ _ _ ⟨hA2.1.1.c, CallVC.cps0 (by omega) (ct_blanksA M2 hA2 (by omega) (fun M3 F3 hA3 => bRe_row_72 _ _ _ _ _ ?_))⟩
        rw [hq] at hA3
        exact ih (k + 1) _ _ _ M3 (by omega) (by omega) ((F1.tr F2).tr (F3.mono X4_Ps)) hA3 (by rw [← hq]; exact rn_idem _) (hP2.x4 F3) (by rw [X4_5 F3 (by omega)]; exact h72) hT
      · rw [if_neg e] at hT
        rw [hT] at hF e
        have F12 := (F1.mono XPs_P).tr F2
        refine bRe_row_68 _ _ _ _ _ ⟨hF.1.1.c, CallVC.cps0 (by omega) ?_⟩
        refine ct_blanksF M2 hF (by omega) (fun M3 q3 F3 hF3 => bRe_row_72 _ _ _ _ _ (bRe_row_46 _ _ _ _ _ ⟨hF3.1.1.c, fun _ => h0 e M3 q3 (F12.tr (F3.mono X4_P)) hF3, fun z => absurd z hF3.ne⟩))
end RR2
