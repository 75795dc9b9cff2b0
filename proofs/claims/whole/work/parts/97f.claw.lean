/-! ===== law: the class ===== -/
theorem rlF_succ (n : Nat) (tp : Nat → Nat) (c p : Nat) (R : List RU) : rlF n tp (c + 1) p R = if tk n tp p = 0 then (0, p, R) else if (ruS n tp R.length p).1 = 0 then rlF n tp c (ruS n tp R.length p).2.1 (R ++ [(ruS n tp R.length p).2.2]) else ((ruS n tp R.length p).1, (ruS n tp R.length p).2.1, []) := rfl
section CLW
variable {l : Launch} {G : Gx} {d : Nat} {bc bs : Nat} {Φ : OutV → Mm → Prop}
theorem ct_readRules (M : Mm) {A n : Nat} {tp : Nat → Nat} {sz : Nat} (hT : TKS M n tp sz 0) (hA : LAok M A) (hA1 : 106 < A ∧ A < 200) (hd : 26 < d)
    (h1 : (rlS n tp).1 = 0 → ∀ M', FrS (XMs A) M M' → LArep M' A (rlS n tp).2.2 → Φ (.inl (some (.int 1))) M')
    (h2 : ¬ (rlS n tp).1 = 0 → ∀ M', FrS (XMf A) M M' → FLT M' (rlS n tp).1 (rlS n tp).2.1 → Φ (.inl (some (.int 0))) M') : Ct l G d mLa_readRules bc bs [.ref A, .ref 102] M Φ := by
  have key : ∀ c M1 i k R, R.length + c = 11 → FrS (XMs A) M M1 → TKS M1 n tp sz i → LAr M1 A k R → k ≤ i → rlF n tp c (tb n tp i) R = rlS n tp → Ev l G d mLa_readRules 12 [.ref A, .ref 102, .int (nI R.length)] [] M1 bc bs Φ := by
    intro c
    induction c with
    | zero =>
      intro M1 i k R hk F1 hT1 hL hki he
      have := hL.2.2.1
      omega
    | succ c ih =>
      intro M1 i k R hk F1 hT1 hL hki he
      rw [rlF_succ] at he
      refine bLa_readRules_12 M1 _ _ _ ⟨fun z => absurd z (by show ¬ nI 10 < nI R.length; exact nI_nlt (by omega) (by omega)), fun _ => ⟨hT1.1.1, CallVC.cps0 (by omega) (ct_atEnd M1 hT1 ?_)⟩⟩
      by_cases z : tk n tp (tb n tp i) = 0
      · rw [if_pos z] at he ⊢
        refine bLa_readRules_22 M1 _ _ _ _ ⟨fun _ => ?_, fun y => absurd y (by decide)⟩
        rw [← he] at h1
        exact h1 rfl M1 F1 hL.rep
      · rw [if_neg z] at he ⊢
        refine bLa_readRules_22 M1 _ _ _ _ ⟨fun y => absurd rfl y, fun _ => ⟨hL.1.1.1, CallVC.cps0 (by omega) (ct_readRule M1 hT1 hL hki (by omega) ⟨fun e M2 i2 k2 F2 hT2 hp hL2 hk2 => ?_, fun e M2 F2 hfl => ?_⟩)⟩⟩
        · rw [if_pos e] at he
          refine bLa_readRules_30 M2 _ _ _ _ ⟨fun _ => ?_, fun y => absurd y (by decide)⟩
          have el : (R ++ [(ruS n tp R.length (tb n tp i)).2.2]).length = R.length + 1 := by rw [List.length_append, List.length_singleton]
          rw [nI_1, ← el]
          exact ih M2 i2 k2 _ (by rw [el]; omega) (F1.tr F2) hT2 hL2 hk2 (by rw [hp]; exact he)
        · rw [if_neg e] at he
          rw [← he] at h2
          refine bLa_readRules_30 M2 _ _ _ _ ⟨fun y => absurd rfl y, fun _ => ?_⟩
          exact h2 e M2 ((F1.mono XMs_f).tr F2) hfl
  refine Ct.of rfl (Nat.le_of_ble_eq_true rfl) (bLa_readRules_0 M _ _ ⟨hA.1, bLa_readRules_10 _ _ _ _ ?_⟩)
  have F0 : FrS (fun a j => a = A) M (m_si (m_si M A 7 0) A 6 0) := (FrS.si (P := fun a _ => a = A) rfl _).tr (FrS.si (P := fun a _ => a = A) rfl _)
  refine key 11 _ 0 0 [] rfl (F0.mono (fun a j z => by unfold XMs; omega)) (hT.keepS F0 (fun a j _ _ => by omega)) ⟨⟨hA.of F0.2.1 F0.2.2.2.1, by rw [m_i_si, if_pos ⟨rfl, rfl⟩]; rfl, by omega, hA1.1, hA1.2⟩, by rw [m_i_si, if_neg (by omega), m_i_si, if_pos ⟨rfl, rfl⟩]; rfl, by show 0 ≤ 10; omega, fun i hi => absurd hi (by show ¬ i < 0; omega)⟩ (by omega) rfl
end CLW
