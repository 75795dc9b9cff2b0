/-! ===== Tokens: what stands here ===== -/
def TKS (M : Mm) (n : Nat) (tp : Nat → Nat) (sz i : Nat) : Prop := TKok M 102 ∧ TKs M n tp sz ∧ i ≤ sz ∧ m_i M 102 5 = nI i ∧ n ≤ 500 ∧ ∀ j, j < n → tp j < 256
def XA : Nat → Nat → Prop := fun a j => a = 102 ∧ 5 ≤ j
def XB : Nat → Nat → Prop := fun a j => a = 102 ∧ j = 5
theorem TKS.fx {M M' : Mm} {n : Nat} {tp : Nat → Nat} {sz i i' : Nat} {X Y : Nat → Nat → Prop} (h : TKS M n tp sz i) (hF : FrX X Y M M') (h2 : ¬ X 102 4) (h3 : ∀ a j, 103 ≤ a → a ≤ 105 → ¬ X a j) (h6 : ∀ a j, a = 102 ∨ a = 106 → ¬ Y a j) (hi : i' ≤ sz) (h5 : m_i M' 102 5 = nI i') : TKS M' n tp sz i' := by
  obtain ⟨a1, ⟨b1, b2, b3, b4, b5⟩, a3, a4, a5⟩ := h
  exact ⟨a1.fx hF (fun j => h6 _ _ (Or.inl rfl)), ⟨by rw [hF.1 _ _ h2]; exact b1, b2, b3, b4, fun j hj => (b5 j hj).fx hF (h3 _ _ (by omega) (by omega)) (h3 _ _ (by omega) (by omega)) (h3 _ _ (by omega) (by omega)) (h6 _ _ (Or.inr rfl))⟩, hi, h5, a5⟩
theorem TKS.keep {M M' : Mm} {n : Nat} {tp : Nat → Nat} {sz i : Nat} {X Y : Nat → Nat → Prop} (h : TKS M n tp sz i) (hF : FrX X Y M M') (h3 : ∀ a j, 102 ≤ a → a ≤ 105 → ¬ X a j) (h6 : ∀ a j, a = 102 ∨ a = 106 → ¬ Y a j) : TKS M' n tp sz i :=
  h.fx hF (h3 _ _ (by omega) (by omega)) (fun a j h1 h2 => h3 a j (by omega) h2) h6 h.2.2.1 (by rw [hF.1 _ _ (h3 _ _ (by omega) (by omega))]; exact h.2.2.2.1)
theorem TKS.keepS {M M' : Mm} {n : Nat} {tp : Nat → Nat} {sz i : Nat} {X : Nat → Nat → Prop} (h : TKS M n tp sz i) (hF : FrS X M M') (h3 : ∀ a j, 102 ≤ a → a ≤ 105 → ¬ X a j) : TKS M' n tp sz i :=
  h.keep (FrX.of (Q := fun _ _ => False) hF) h3 (fun _ _ _ z => z)
theorem TKS.pos {M : Mm} {n : Nat} {tp : Nat → Nat} {sz i : Nat} (h : TKS M n tp sz i) : TKp M n tp i (tb n tp i) := h.2.1.2.2.2.2 i h.2.2.1
theorem TKS.le {M : Mm} {n : Nat} {tp : Nat → Nat} {sz i : Nat} (h : TKS M n tp sz i) : tb n tp i ≤ n := by
  by_cases z : i = sz
  · rw [z, h.2.1.2.2.1]; exact Nat.le_refl _
  · exact Nat.le_of_lt (h.2.1.2.2.2.1 i (by have := h.2.2.1; omega))
theorem TKS.lt {M : Mm} {n : Nat} {tp : Nat → Nat} {sz i : Nat} (h : TKS M n tp sz i) (hk : ¬ tk n tp (tb n tp i) = 0) : i < sz ∧ tb n tp i < n := by
  have := tk_lt hk
  refine ⟨?_, this⟩
  by_cases z : i = sz
  · rw [z, h.2.1.2.2.1] at this; omega
  · have := h.2.2.1; omega
/-- the WORD, the sign here -/
def wd (n : Nat) (tp : Nat → Nat) (p : Nat) : Nat := if tk n tp p = 2 then tw n tp p else 1
def sg (n : Nat) (tp : Nat → Nat) (p : Nat) : Nat := if tk n tp p = 3 then tp p else 0
theorem wd_rng (n : Nat) (tp : Nat → Nat) (p : Nat) : 1 ≤ wd n tp p ∧ wd n tp p ≤ 23 := by
  unfold wd
  split
  · exact twL_rng _
  · omega
theorem wd_k {n : Nat} {tp : Nat → Nat} {p : Nat} (h : ¬ wd n tp p = 1) : ¬ tk n tp p = 0 := fun z => h (by unfold wd; rw [if_neg (by omega)])
theorem sg_k {n : Nat} {tp : Nat → Nat} {p : Nat} (h : ¬ sg n tp p = 0) : ¬ tk n tp p = 0 := fun z => h (by unfold sg; rw [if_neg (by omega)])
theorem sb_eq {b c : Nat} (hb : b < 256) (hc : c < 128) : sb b = nI c ↔ b = c := by
  unfold sb
  by_cases z : b < 128
  · rw [if_pos z, nI_eq (by omega) (by omega)]
  · rw [if_neg z]
    constructor
    · intro e
      have := pk_sneg (a := b) (b := 256) (by omega) hb
      have e2 : nI b - nI 256 = nI c := e
      rw [e2] at this
      exact absurd this (nI_pos (by omega))
    · intro e; omega
section TKM
variable {l : Launch} {G : Gx} {d : Nat} {bc bs : Nat} {Φ : OutV → Mm → Prop}
theorem ct_atEnd (M : Mm) {n : Nat} {tp : Nat → Nat} {sz i : Nat} (hT : TKS M n tp sz i) (h : Φ (.inl (some (.int (if tk n tp (tb n tp i) = 0 then 1 else 0)))) M) : Ct l G d mTo_atEnd bc bs [.ref 102] M Φ := by
  obtain ⟨⟨t0, t1, t2, t3, t4, s1, s2, s3, s4⟩, ⟨b1, b2, b3, b4, b5⟩, hi, h5, hn, hb⟩ := id hT
  obtain ⟨q5, q3, q1, q4, q2⟩ := hT.pos
  have ec : (nI i).toNatClampNeg = i := nI_clamp (by omega)
  have hin : vp_in (nI i) 501 := vp_in_nI (by omega) (by omega)
  have hk : tk n tp (tb n tp i) < 4 := by unfold tk; split; omega; split; omega; split <;> omega
  refine Ct.of rfl (Nat.le_of_ble_eq_true rfl) (bTo_atEnd_0 M _ ⟨t0, by rw [t1, s1], by rw [t1, s1, h5]; exact hin, ?_⟩)
  rw [t1, h5, ec, q3]
  refine ⟨fun c => ?_, fun c => ?_⟩
  · rw [if_neg (fun z => c (by rw [z]; rfl))] at h; exact h
  · rw [if_pos ((nI_eq (b := 0) (by omega) (by omega)).mp c)] at h; exact h
theorem ct_here (M : Mm) {n : Nat} {tp : Nat → Nat} {sz i : Nat} (hT : TKS M n tp sz i) (h : Φ (.inl (some (.ref (wd n tp (tb n tp i))))) M) : Ct l G d mTo_here bc bs [.ref 102] M Φ := by
  obtain ⟨⟨t0, t1, t2, t3, t4, s1, s2, s3, s4⟩, ⟨b1, b2, b3, b4, b5⟩, hi, h5, hn, hb⟩ := id hT
  obtain ⟨q5, q3, q1, q4, q2⟩ := hT.pos
  have ec : (nI i).toNatClampNeg = i := nI_clamp (by omega)
  have hin : vp_in (nI i) 501 := vp_in_nI (by omega) (by omega)
  have hk : tk n tp (tb n tp i) < 4 := by unfold tk; split; omega; split; omega; split <;> omega
  unfold wd at h
  refine Ct.of rfl (Nat.le_of_ble_eq_true rfl) (bTo_here_0 M _ ⟨t0, by rw [t1, s1], by rw [t1, s1, h5]; exact hin, ?_⟩)
  rw [t1, t4, h5, ec, q3]
  refine ⟨fun c => ?_, fun c => ⟨by rw [s4], by rw [s4]; exact hin, ?_⟩⟩
  · rw [if_neg (fun z => c (by rw [z]; rfl))] at h; exact h
  · have c' := (nI_eq (b := 2) (by omega) (by omega)).mp c
    rw [if_pos c'] at h
    rw [q2 c']; exact h
theorem ct_signHere (M : Mm) {n : Nat} {tp : Nat → Nat} {sz i : Nat} (hT : TKS M n tp sz i) (h : Φ (.inl (some (.int (sb (sg n tp (tb n tp i)))))) M) : Ct l G d mTo_signHere bc bs [.ref 102] M Φ := by
  obtain ⟨⟨t0, t1, t2, t3, t4, s1, s2, s3, s4⟩, ⟨b1, b2, b3, b4, b5⟩, hi, h5, hn, hb⟩ := id hT
  obtain ⟨q5, q3, q1, q4, q2⟩ := hT.pos
  have ec : (nI i).toNatClampNeg = i := nI_clamp (by omega)
  have hin : vp_in (nI i) 501 := vp_in_nI (by omega) (by omega)
  have hk : tk n tp (tb n tp i) < 4 := by unfold tk; split; omega; split; omega; split <;> omega
  unfold sg at h
  refine Ct.of rfl (Nat.le_of_ble_eq_true rfl) (bTo_signHere_0 M _ ⟨t0, by rw [t1, s1], by rw [t1, s1, h5]; exact hin, ?_⟩)
  rw [t1, t2, h5, ec, q3]
  refine ⟨fun c => ?_, fun c => ⟨by rw [s2], by rw [s2]; exact hin, ?_⟩⟩
  · rw [if_neg (fun z => c (by rw [z]; rfl))] at h; exact h
  · have c' := (nI_eq (b := 3) (by omega) (by omega)).mp c
    rw [if_pos c'] at h
    rw [q4 c']; exact h
theorem ct_isNumber (M : Mm) {n : Nat} {tp : Nat → Nat} {sz i : Nat} (hT : TKS M n tp sz i) (v : Nat) (hv : v < 100000) (h : Φ (.inl (some (.int (if tk n tp (tb n tp i) = 1 ∧ cvl n tp (tb n tp i) = v then 1 else 0)))) M) : Ct l G d mTo_isNumber bc bs [.ref 102, .int (nI v)] M Φ := by
  obtain ⟨⟨t0, t1, t2, t3, t4, s1, s2, s3, s4⟩, ⟨b1, b2, b3, b4, b5⟩, hi, h5, hn, hb⟩ := id hT
  obtain ⟨q5, q3, q1, q4, q2⟩ := hT.pos
  have ec : (nI i).toNatClampNeg = i := nI_clamp (by omega)
  have hin : vp_in (nI i) 501 := vp_in_nI (by omega) (by omega)
  have hk : tk n tp (tb n tp i) < 4 := by unfold tk; split; omega; split; omega; split <;> omega
  have hc := cvl_lt n tp (tb n tp i)
  refine Ct.of rfl (Nat.le_of_ble_eq_true rfl) (bTo_isNumber_0 M _ _ ⟨t0, by rw [t1, s1], by rw [t1, s1, h5]; exact hin, ?_⟩)
  rw [t1, t2, h5, ec, q3]
  refine ⟨fun c => ?_, fun c => ⟨by rw [s2], by rw [s2]; exact hin, ?_⟩⟩
  · rw [if_neg (fun z => c (by rw [z.1]; rfl))] at h; exact h
  · have c' := (nI_eq (b := 1) (by omega) (by omega)).mp c
    rw [q1 c', nI_eq (by omega) (by omega)]
    refine ⟨fun z => ?_, fun z => ?_⟩
    · rw [if_neg (fun y => z y.2)] at h; exact h
    · rw [if_pos ⟨c', z⟩] at h; exact h
theorem ct_goOn (M : Mm) {n : Nat} {tp : Nat → Nat} {sz i : Nat} (hT : TKS M n tp sz i) (hk : ¬ tk n tp (tb n tp i) = 0) (h : ∀ M', FrS XB M M' → TKS M' n tp sz (i + 1) → Φ (.inl none) M') : Ct l G d mTo_goOn bc bs [.ref 102] M Φ := by
  have hlt := hT.lt hk
  obtain ⟨⟨t0, t1, t2, t3, t4, s1, s2, s3, s4⟩, ⟨b1, b2, b3, b4, b5⟩, hi, h5, hn, hb⟩ := id hT
  refine Ct.of rfl (Nat.le_of_ble_eq_true rfl) (bTo_goOn_0 M _ ⟨t0, fun c => absurd c (by rw [b1, h5]; exact nI_not_le hlt.1 (by omega)), fun _ => ?_⟩)
  rw [h5, nI_1]
  exact h _ (FrS.si ⟨rfl, rfl⟩ _) (hT.fx (FrX.of (Q := fun _ _ => False) (FrS.si (P := XA) ⟨rfl, by omega⟩ _)) (by unfold XA; omega) (fun a j _ _ => by unfold XA; omega) (fun _ _ _ z => z) (by omega) (by rw [m_i_si, if_pos ⟨rfl, rfl⟩]))
/-- a FAULT, with its place -/
def FLT (M : Mm) (c p : Nat) : Prop := m_i M 102 6 = nI c ∧ m_i M 102 7 = nI p
theorem tks_fail (M : Mm) {n : Nat} {tp : Nat → Nat} {sz i : Nat} (hT : TKS M n tp sz i) (c : Nat) (x : Int32) (hx : x = nI c) : FrS XA M (m_si (m_si M 102 6 x) 102 7 (nI (tb n tp i))) ∧ TKS (m_si (m_si M 102 6 x) 102 7 (nI (tb n tp i))) n tp sz i ∧ FLT (m_si (m_si M 102 6 x) 102 7 (nI (tb n tp i))) c (tb n tp i) := by
  have F : FrS XA M (m_si (m_si M 102 6 x) 102 7 (nI (tb n tp i))) := (FrS.si (P := XA) ⟨rfl, by omega⟩ _).tr (FrS.si ⟨rfl, by omega⟩ _)
  refine ⟨F, hT.fx (FrX.of (Q := fun _ _ => False) F) (by unfold XA; omega) (fun a j _ _ => by unfold XA; omega) (fun _ _ _ z => z) hT.2.2.1 ?_, ?_, ?_⟩
  · rw [m_i_si, if_neg (by omega), m_i_si, if_neg (by omega)]; exact hT.2.2.2.1
  · rw [m_i_si, if_neg (by omega), m_i_si, if_pos ⟨rfl, rfl⟩]; exact hx
  · rw [m_i_si, if_pos ⟨rfl, rfl⟩]
theorem ct_fail (M : Mm) {n : Nat} {tp : Nat → Nat} {sz i : Nat} (hT : TKS M n tp sz i) (c : Nat) (x : Int32) (hx : x = nI c) (h : ∀ M', FrS XA M M' → TKS M' n tp sz i → FLT M' c (tb n tp i) → Φ (.inl (some (.int 0))) M') : Ct l G d mTo_fail bc bs [.ref 102, .int x] M Φ := by
  obtain ⟨⟨t0, t1, t2, t3, t4, s1, s2, s3, s4⟩, ⟨b1, b2, b3, b4, b5⟩, hi, h5, hn, hb⟩ := id hT
  obtain ⟨q5, q3, q1, q4, q2⟩ := hT.pos
  have ec : (nI i).toNatClampNeg = i := nI_clamp (by omega)
  have hin : vp_in (nI i) 501 := vp_in_nI (by omega) (by omega)
  refine Ct.of rfl (Nat.le_of_ble_eq_true rfl) (bTo_fail_0 M _ _ ⟨t0, by rw [t3, s3], by rw [t3, s3, m_i_si, if_neg (by omega), h5]; exact hin, ?_⟩)
  rw [t3, m_i_si, if_neg (by omega), m_i_si, if_neg (by omega), h5, ec, q5]
  obtain ⟨f1, f2, f3⟩ := tks_fail M hT c x hx
  exact h _ f1 f2 f3
theorem ct_takeSign (M : Mm) {n : Nat} {tp : Nat → Nat} {sz i : Nat} (hT : TKS M n tp sz i) (c : Nat) (hc : 0 < c ∧ c < 128)
    (h1 : sg n tp (tb n tp i) = c → ∀ M', FrS XB M M' → TKS M' n tp sz (i + 1) → Φ (.inl (some (.int 1))) M')
    (h2 : ¬ sg n tp (tb n tp i) = c → ∀ M', FrS XA M M' → TKS M' n tp sz i → FLT M' 1 (tb n tp i) → Φ (.inl (some (.int 0))) M') : Ct l G d mTo_takeSign bc bs [.ref 102, .int (nI c)] M Φ := by
  obtain ⟨⟨t0, t1, t2, t3, t4, s1, s2, s3, s4⟩, ⟨b1, b2, b3, b4, b5⟩, hi, h5, hn, hb⟩ := id hT
  obtain ⟨q5, q3, q1, q4, q2⟩ := hT.pos
  have ec : (nI i).toNatClampNeg = i := nI_clamp (by omega)
  have hin : vp_in (nI i) 501 := vp_in_nI (by omega) (by omega)
  have hk : tk n tp (tb n tp i) < 4 := by unfold tk; split; omega; split; omega; split <;> omega
  have bad : ¬ sg n tp (tb n tp i) = c → ∀ u, Ev l G d mTo_takeSign 30 [.ref 102, .int (nI c), u] [] M bc bs Φ := fun hne u => by
    refine bTo_takeSign_30 M _ _ _ ⟨t0, by rw [t3, s3], by rw [t3, s3, m_i_si, if_neg (by omega), h5]; exact hin, ?_⟩
    rw [t3, m_i_si, if_neg (by omega), m_i_si, if_neg (by omega), h5, ec, q5]
    obtain ⟨f1, f2, f3⟩ := tks_fail M hT 1 1 rfl
    exact h2 hne _ f1 f2 f3
  refine Ct.of rfl (Nat.le_of_ble_eq_true rfl) (bTo_takeSign_0 M _ _ ⟨t0, by rw [t1, s1], by rw [t1, s1, h5]; exact hin, ?_⟩)
  rw [t1, t2, h5, ec, q3]
  refine ⟨fun z => bad (fun y => ?_) _, fun z => ⟨by rw [s2], by rw [s2]; exact hin, ?_⟩⟩
  · unfold sg at y
    rw [if_neg (fun k => z (by rw [k]; rfl))] at y
    omega
  · have z' := (nI_eq (b := 3) (by omega) (by omega)).mp z
    have hlt := hT.lt (by omega)
    have esg : sg n tp (tb n tp i) = tp (tb n tp i) := if_pos z'
    rw [q4 z', sb_eq (hb _ hlt.2) hc.2]
    refine ⟨fun y => bad (fun k => y (by rw [← esg]; exact k)) _, fun y => ?_⟩
    rw [nI_1]
    exact h1 (by rw [esg]; exact y) _ (FrS.si ⟨rfl, rfl⟩ _) (hT.fx (FrX.of (Q := fun _ _ => False) (FrS.si (P := XA) ⟨rfl, by omega⟩ _)) (by unfold XA; omega) (fun a j _ _ => by unfold XA; omega) (fun _ _ _ z => z) (by omega) (by rw [m_i_si, if_pos ⟨rfl, rfl⟩]))
/-- whether a number from lo to below hi stands there -/
abbrev nOK (n : Nat) (tp : Nat → Nat) (lo hi p : Nat) : Prop := tk n tp p = 1 ∧ lo ≤ cvl n tp p ∧ cvl n tp p < hi
theorem ct_takeNumber (M : Mm) {n : Nat} {tp : Nat → Nat} {sz i : Nat} (hT : TKS M n tp sz i) (lo hi : Nat) (x1 x2 : Int32) (hx1 : x1 = nI lo) (hlo : lo < 100000) (hx2 : x2.toInt = (hi : Int) - 1)
    (h1 : nOK n tp lo hi (tb n tp i) → ∀ M', FrS XB M M' → TKS M' n tp sz (i + 1) → Φ (.inl (some (.int (nI (cvl n tp (tb n tp i)))))) M')
    (h2 : ¬ nOK n tp lo hi (tb n tp i) → ∀ M', FrS XA M M' → TKS M' n tp sz i → FLT M' (if tk n tp (tb n tp i) = 1 then 2 else 1) (tb n tp i) → Φ (.inl (some (.int (-1)))) M') : Ct l G d mTo_takeNumber bc bs [.ref 102, .int x1, .int x2] M Φ := by
  obtain ⟨⟨t0, t1, t2, t3, t4, s1, s2, s3, s4⟩, ⟨b1, b2, b3, b4, b5⟩, hi', h5, hn, hb⟩ := id hT
  obtain ⟨q5, q3, q1, q4, q2⟩ := hT.pos
  have ec : (nI i).toNatClampNeg = i := nI_clamp (by omega)
  have hin : vp_in (nI i) 501 := vp_in_nI (by omega) (by omega)
  have hk : tk n tp (tb n tp i) < 4 := by unfold tk; split; omega; split; omega; split <;> omega
  have hc := cvl_lt n tp (tb n tp i)
  have e2 : ∀ v, v < 100000 → (x2 < nI v ↔ hi ≤ v) := fun v hv => by
    rw [Int32.lt_iff_toInt_lt, hx2, nI_toInt (by omega)]
    omega

  refine Ct.of rfl (Nat.le_of_ble_eq_true rfl) (bTo_takeNumber_0 M _ _ _ ⟨t0, by rw [t1, s1], by rw [t1, s1, h5]; exact hin, ?_⟩)
  rw [t1, t2, h5, ec, q3]
  refine ⟨fun z => ⟨by rw [s2], by rw [s2]; exact hin, ?_⟩, fun z => ⟨by rw [s2], by rw [s2]; exact hin, ?_⟩⟩
  · have z' : ¬ tk n tp (tb n tp i) = 1 := fun k => z (by rw [k]; rfl)
    refine bTo_takeNumber_59 M _ _ _ _ _ ⟨fun _ => ⟨t0, by rw [t3, s3], by rw [t3, s3, m_i_si, if_neg (by omega), h5]; exact hin, ?_⟩, fun c => absurd rfl c⟩
    rw [t3, m_i_si, if_neg (by omega), m_i_si, if_neg (by omega), h5, ec, q5]
    obtain ⟨f1, f2, f3⟩ := tks_fail M hT 1 1 rfl
    rw [if_neg z'] at h2
    exact h2 (fun k => z' k.1) _ f1 f2 f3
  · have z' := (nI_eq (b := 1) (by omega) (by omega)).mp z
    have hlt := hT.lt (by omega)
    have bad : ¬ (lo ≤ cvl n tp (tb n tp i) ∧ cvl n tp (tb n tp i) < hi) → ∀ x, Ev l G d mTo_takeNumber 59 [.ref 102, .int x1, .int x2, .int 1, .int x] [] M bc bs Φ := fun hne x => by
      refine bTo_takeNumber_59 M _ _ _ _ _ ⟨fun c => absurd c (by decide), fun _ => ⟨t0, by rw [t3, s3], by rw [t3, s3, m_i_si, if_neg (by omega), h5]; exact hin, ?_⟩⟩
      rw [t3, m_i_si, if_neg (by omega), m_i_si, if_neg (by omega), h5, ec, q5]
      obtain ⟨f1, f2, f3⟩ := tks_fail M hT 2 2 rfl
      rw [if_pos z'] at h2
      exact h2 (fun k => hne k.2) _ f1 f2 f3
    rw [q1 z', hx1, nI_ltI (by omega) (by omega), e2 _ hc, ← hx1]
    refine ⟨fun y => bad (by omega) _, fun y => ⟨fun y2 => bad (by omega) _, fun y2 => ?_⟩⟩
    rw [nI_1]
    exact h1 ⟨z', by omega, by omega⟩ _ (FrS.si ⟨rfl, rfl⟩ _) (hT.fx (FrX.of (Q := fun _ _ => False) (FrS.si (P := XA) ⟨rfl, by omega⟩ _)) (by unfold XA; omega) (fun a j _ _ => by unfold XA; omega) (fun _ _ _ z => z) (by omega) (by rw [m_i_si, if_pos ⟨rfl, rfl⟩]))
end TKM
