/-! ===== a law, as told ===== -/
/-- fault, place (or where it goes on), steps -/
abbrev Pr : Type := Nat × Nat × List Int32
def stF (c : Nat) : Int32 := if c = 42 then -11 else if c = 43 then -9 else if c = 45 then -10 else if c = 47 then -12 else if c = 60 then -13 else if c = 62 then -14 else -15
def joinL (n : Nat) (tp : Nat → Nat) (op : Nat → Bool) (st : Nat → Int32) (f : Nat → Pr) : Nat → Nat → List Int32 → Pr
  | 0, p, S => (0, p, S)
  | k + 1, p, S => if op p = true then (if (f (nx n tp p)).1 = 0 then joinL n tp op st f k (f (nx n tp p)).2.1 (S ++ (f (nx n tp p)).2.2 ++ [st p]) else ((f (nx n tp p)).1, (f (nx n tp p)).2.1, [])) else (0, p, S)
def joinF (n : Nat) (tp : Nat → Nat) (op : Nat → Bool) (st : Nat → Int32) (f : Nat → Pr) (p : Nat) : Pr := if (f p).1 = 0 then joinL n tp op st f 500 (f p).2.1 (f p).2.2 else ((f p).1, (f p).2.1, [])
def isO (n : Nat) (tp : Nat → Nat) (a b p : Nat) : Bool := decide (sg n tp p = a ∨ sg n tp p = b)
def isW (n : Nat) (tp : Nat → Nat) (w p : Nat) : Bool := decide (wd n tp p = w)
def prodF (n : Nat) (tp : Nat → Nat) (u : Nat → Pr) : Nat → Pr := joinF n tp (isO n tp 42 47) (fun p => stF (sg n tp p)) u
def sumF (n : Nat) (tp : Nat → Nat) (u : Nat → Pr) : Nat → Pr := joinF n tp (isO n tp 43 45) (fun p => stF (sg n tp p)) (prodF n tp u)
def cloP (n : Nat) (tp : Nat → Nat) (c : Nat) (r : Pr) : Pr := if r.1 = 0 then (if sg n tp r.2.1 = c then (0, nx n tp r.2.1, r.2.2) else (1, r.2.1, [])) else r
def unitF (n : Nat) (tp : Nat → Nat) (hi : Bool) (sm : Nat → Pr) (p : Nat) : Pr :=
  if sg n tp p = 40 then (if hi = true then cloP n tp 41 (sm (nx n tp p)) else (3, p, []))
  else if wM (wd n tp p) < 0 then (0, nx n tp p, [wM (wd n tp p)])
  else if nOK n tp 0 10000 p then (0, nx n tp p, [nI (cvl n tp p)]) else (fcd n tp p, p, [])
def opS (n : Nat) (tp : Nat → Nat) : Nat → Nat → Pr
  | 0 => unitF n tp false (fun p => (0, p, []))
  | o + 1 => unitF n tp true (sumF n tp (opS n tp o))
def sumS (n : Nat) (tp : Nat → Nat) (o : Nat) : Nat → Pr := sumF n tp (opS n tp o)
def andF (n : Nat) (tp : Nat → Nat) (f : Nat → Pr) : Nat → Pr := joinF n tp (isW n tp 15) (fun _ => -16) f
def orF (n : Nat) (tp : Nat → Nat) (f : Nat → Pr) : Nat → Pr := joinF n tp (isW n tp 14) (fun _ => -17) (andF n tp f)
def notP (r : Pr) : Pr := if r.1 = 0 then (0, r.2.1, r.2.2 ++ [-8]) else r
def cmpP (n : Nat) (tp : Nat → Nat) (sm : Nat → Pr) (r : Pr) : Pr :=
  if r.1 = 0 then (if sg n tp r.2.1 = 60 ∨ sg n tp r.2.1 = 62 ∨ sg n tp r.2.1 = 61 then (if (sm (nx n tp r.2.1)).1 = 0 then (0, (sm (nx n tp r.2.1)).2.1, r.2.2 ++ (sm (nx n tp r.2.1)).2.2 ++ [stF (sg n tp r.2.1)]) else sm (nx n tp r.2.1)) else (1, r.2.1, [])) else r
def clmF (n : Nat) (tp : Nat → Nat) (hi : Bool) (sm cl : Nat → Pr) (p : Nat) : Pr :=
  if wd n tp p = 16 ∨ sg n tp p = 91 then (if hi = true then (if wd n tp p = 16 then notP (cl (nx n tp p)) else cloP n tp 93 (orF n tp cl (nx n tp p))) else (3, p, []))
  else cmpP n tp sm (sm p)
def clmS (n : Nat) (tp : Nat → Nat) : Nat → Nat → Pr
  | 0 => clmF n tp false (sumS n tp 0) (fun p => (0, p, []))
  | o + 1 => clmF n tp true (sumS n tp (o + 1)) (clmS n tp o)
def XLs (A : Nat) : Nat → Nat → Prop := fun a j => (a = A ∧ j = 6) ∨ a = A + 5 ∨ XB a j
def XLf (A : Nat) : Nat → Nat → Prop := fun a j => (a = A ∧ j = 6) ∨ a = A + 5 ∨ XA a j
def LAst (M : Mm) (A k : Nat) : Prop := LAok M A ∧ m_i M A 6 = nI k ∧ k ≤ 500 ∧ 106 < A ∧ A < 200
theorem XLs_f {A : Nat} : ∀ a j, XLs A a j → XLf A a j := fun a j h => by unfold XLs XB at h; unfold XLf XA; omega
theorem XB_Ls {A : Nat} : ∀ a j, XB a j → XLs A a j := fun _ _ h => Or.inr (Or.inr h)
theorem XB_Lf {A : Nat} : ∀ a j, XB a j → XLf A a j := fun a j h => XLs_f a j (XB_Ls a j h)
theorem XA_Lf {A : Nat} : ∀ a j, XA a j → XLf A a j := fun _ _ h => Or.inr (Or.inr h)
theorem LAst.fr {M M' : Mm} {A k : Nat} {X : Nat → Nat → Prop} (h : LAst M A k) (hF : FrS X M M') (hX : ∀ a j, X a j → a ≤ 106) : LAst M' A k := by
  obtain ⟨h1, h2, h3, h4, h5⟩ := h
  exact ⟨h1.of hF.2.1 hF.2.2.2.1, by rw [hF.1 _ _ (fun z => by have := hX _ _ z; omega)]; exact h2, h3, h4, h5⟩
def LdPost (M : Mm) (A n : Nat) (tp : Nat → Nat) (sz i k : Nat) (r : Pr) (Φ : OutV → Mm → Prop) : Prop :=
  (r.1 = 0 → ∀ M' i', FrS (XLs A) M M' → TKS M' n tp sz i' → tb n tp i' = r.2.1 → i + r.2.2.length ≤ i' → LAst M' A (k + r.2.2.length) → (∀ j, j < k → m_i M' (A + 5) j = m_i M (A + 5) j) → (∀ j, j < r.2.2.length → m_i M' (A + 5) (k + j) = stL r.2.2 j) → Φ (.inl (some (.int 1))) M') ∧
  (¬ r.1 = 0 → ∀ M' i' k', FrS (XLf A) M M' → TKS M' n tp sz i' → FLT M' r.1 r.2.1 → LAst M' A k' → Φ (.inl (some (.int 0))) M')
theorem LdPost.im {M : Mm} {A n : Nat} {tp : Nat → Nat} {sz i k : Nat} {r : Pr} {Φ Ψ : OutV → Mm → Prop} (h : LdPost M A n tp sz i k r Φ) (hi : ∀ o M', Φ o M' → Ψ o M') : LdPost M A n tp sz i k r Ψ :=
  ⟨fun e M' i' a b c d e1 f g => hi _ _ (h.1 e M' i' a b c d e1 f g), fun e M' i' k' a b c d => hi _ _ (h.2 e M' i' k' a b c d)⟩
section LAW
variable {l : Launch} {G : Gx} {d : Nat} {bc bs : Nat} {Φ : OutV → Mm → Prop}
theorem ct_stepFor (M : Mm) (c : Nat) (hc : c < 128) (h : Φ (.inl (some (.int (stF c)))) M) : Ct l G d mLa_stepFor bc bs [.int (nI c)] M Φ := by
  have e : ∀ k : Nat, k < 128 → (nI c = nI k ↔ c = k) := fun k hk => nI_eq (by omega) (by omega)
  unfold stF at h
  refine Ct.of rfl (Nat.le_of_ble_eq_true rfl) (bLa_stepFor_0 M _ ?_)
  refine ⟨fun z => ?_, fun z => ?_, fun z => ?_, fun z => ?_, fun z => ?_, fun z => ?_, fun z1 z2 z3 z4 z5 z6 => ?_⟩
  · have y := (e 42 (by omega)).mp z
    rw [if_pos y] at h; exact h
  · have y := (e 43 (by omega)).mp z
    rw [if_neg (by omega), if_pos y] at h; exact h
  · have y := (e 45 (by omega)).mp z
    rw [if_neg (by omega), if_neg (by omega), if_pos y] at h; exact h
  · have y := (e 47 (by omega)).mp z
    rw [if_neg (by omega), if_neg (by omega), if_neg (by omega), if_pos y] at h; exact h
  · have y := (e 60 (by omega)).mp z
    rw [if_neg (by omega), if_neg (by omega), if_neg (by omega), if_neg (by omega), if_pos y] at h; exact h
  · have y := (e 62 (by omega)).mp z
    rw [if_neg (by omega), if_neg (by omega), if_neg (by omega), if_neg (by omega), if_neg (by omega), if_pos y] at h; exact h
  · rw [if_neg (fun y => z1 ((e 42 (by omega)).mpr y)), if_neg (fun y => z2 ((e 43 (by omega)).mpr y)), if_neg (fun y => z3 ((e 45 (by omega)).mpr y)), if_neg (fun y => z4 ((e 47 (by omega)).mpr y)), if_neg (fun y => z5 ((e 60 (by omega)).mpr y)), if_neg (fun y => z6 ((e 62 (by omega)).mpr y))] at h
    exact h
theorem ct_addStep (M : Mm) {A k : Nat} (hA : LAst M A k) (v : Int32) (h : ∀ M' k', FrS (fun a j => (a = A ∧ j = 6) ∨ a = A + 5) M M' → LAst M' A k' → (k < 500 → k' = k + 1 ∧ (∀ j, j < k → m_i M' (A + 5) j = m_i M (A + 5) j) ∧ m_i M' (A + 5) k = v) → Φ (.inl none) M') : Ct l G d mLa_addStep bc bs [.ref A, .int v] M Φ := by
  obtain ⟨⟨a0, a1, a2, a3, a4, a5, a6, s1, s2, s3, s4, s5, s6⟩, h2, h3, h4, h5⟩ := id hA
  refine Ct.of rfl (Nat.le_of_ble_eq_true rfl) (bLa_addStep_0 M _ _ ⟨a0, by rw [a5, s5], ?_⟩)
  rw [a5, s5, h2]
  refine ⟨fun c => ?_, fun c => ⟨?_, ?_⟩⟩
  · have c' : 500 ≤ k := (nI_leI (a := 500) (b := k) (by omega) (by omega)).mp c
    exact h M k (FrS.rf _ _) hA (fun z => absurd z (by omega))
  · have c' : ¬ 500 ≤ k := fun z => c ((nI_leI (a := 500) (b := k) (by omega) (by omega)).mpr z)
    exact vp_in_nI (by omega) (by omega)
  · have c' : ¬ 500 ≤ k := fun z => c ((nI_leI (a := 500) (b := k) (by omega) (by omega)).mpr z)
    rw [nI_clamp (by omega), m_i_si, if_neg (by omega), h2, nI_1]
    have F1 : FrS (fun a j => (a = A ∧ j = 6) ∨ a = A + 5) M (m_si (m_si M (A + 5) k v) A 6 (nI (k + 1))) := (FrS.si (P := fun a j => (a = A ∧ j = 6) ∨ a = A + 5) (Or.inr rfl) _).tr (FrS.si (Or.inl ⟨rfl, rfl⟩) _)
    refine h _ (k + 1) F1 ⟨hA.1.of F1.2.1 F1.2.2.2.1, by rw [m_i_si, if_pos ⟨rfl, rfl⟩], by omega, h4, h5⟩ (fun _ => ⟨rfl, fun j hj => ?_, ?_⟩)
    · rw [m_i_si, if_neg (by omega), m_i_si, if_neg (by omega)]
    · rw [m_i_si, if_neg (by omega), m_i_si, if_pos ⟨rfl, rfl⟩]
end LAW
