/-! ===== Day: offersPlace, handAlong ===== -/
def PH (I A D : Nat) : Nat → Nat → Prop := fun a j => a = I + 2 ∨ a = A + 6 ∨ (a = D ∧ j = 5)
theorem pl_eq {c : Cf} (hc : cfOK c) {p : Nat} (hp : p < c_n c) : nI p = oN (c_pl c) ↔ c_pl c = some p := by
  have n8 := hc.1
  cases h : c_pl c with
  | none => exact ⟨fun e => absurd e (nI_neg (by omega)), fun e => by cases e⟩
  | some q =>
    have := hc.2.2.2.2.2.2.2.1 q h
    exact ⟨fun e => by rw [(nI_eq (by omega) (by omega)).mp e], fun e => by cases e; rfl⟩
theorem offT_at (c : Cf) (k : Nat) (bal : Nat → Int32) (L : List Nat) (mm u i r : Nat) (hi : i < L.length) : offT c k bal L mm (r * L.length + i) u = if stopS c L mm r = true then (false, u) else offS c k bal (mm / 60) (L.getD i 0) (L.getD ((i + 1) % L.length) 0) u := by
  have e1 : (r * L.length + i) / L.length = r := by rw [Nat.add_comm, Nat.add_mul_div_right _ _ (by omega), Nat.div_eq_of_lt hi, Nat.zero_add]
  have e2 : (r * L.length + i) % L.length = i := by rw [Nat.add_comm, Nat.add_mul_mod_self_right, Nat.mod_eq_of_lt hi]
  unfold offT
  rw [e1, e2]
section SDH
variable {l : Launch} {G : Gx} {d : Nat} {bc bs : Nat} {Φ : OutV → Mm → Prop}
theorem ct_offersPlace (M : Mm) (c : Cf) (hc : cfOK c) (D I A P k : Nat) (hDI : DIN M c D I A P) (hW : WYrep M D c k) (bal : Nat → Int32) (hB : BLrep M D bal) (C : Nat) (L : List Nat) (mm : Nat) (hC : CAin M C L mm) (hL : LOK c L) (hm : mm < 999) (hCD : D + 10 < C) (u : Nat) (hu : m_i M D 5 = nI u) (hu2 : u < 2 ^ 30) (i r : Nat) (hi : i < L.length) (hd : 2 < d)
    (h : ∀ M', FrS (PH I A D) M M' → IFinv M' I A P (c_n c) (c_f c) (c_by c) (c_nu c) (c_mu c) (c_wo c) → m_i M' D 5 = nI (offT c k bal L mm (r * L.length + i) u).2 → Φ (.inl (some (.int (if (offT c k bal L mm (r * L.length + i) u).1 = true then 1 else 0)))) M') :
    Ct l G d mDa_offersPlace bc bs [.ref D, .ref C, .int (nI i), .int (nI r)] M Φ := by
  rw [offT_at c k bal L mm u i r hi] at h
  have n8 := hc.1
  obtain ⟨l1, l8, lp, -⟩ := id hL
  obtain ⟨⟨d0, d1, d2, d3, -, -, d6, s1, -, -, pb, -⟩, hI, ⟨o1, o2, o3⟩, b3, b4, b6, b7⟩ := id hDI
  obtain ⟨⟨i0, i1, i2, i3, i4, i5, t1, t2, t3⟩, -, hE, hR, hnu, -⟩ := id hI
  obtain ⟨⟨c0, c1, c2⟩, a1, a2, a3, a4⟩ := id hC
  have hp := lp i hi
  have hcl : (nI i).toNatClampNeg = i := nI_clamp (by omega)
  have n3 : m_i M (m_r M (m_r M D 1) 0) (3 : Int32).toNatClampNeg = c_nu c 3 := by rw [d2, i1]; exact hnu 3 (by omega)
  have n4 : m_i M (m_r M (m_r M D 1) 0) (4 : Int32).toNatClampNeg = c_nu c 4 := by rw [d2, i1]; exact hnu 4 (by omega)
  have nsh : m_sh M (m_r M (m_r M D 1) 0) = (20, 10) := by rw [d2, i1]; exact t1
  have hstop : stopS c L mm r = true → Φ (.inl (some (.int 0))) M := fun e => by
    have := h M (FrS.rf _ _) hI (by rw [if_pos e]; exact hu)
    rw [if_pos e] at this
    exact this
  have hgo : stopS c L mm r = false → ∀ x4 x5 : Int32, ∀ u6 u7 : Value, Ev l G d mDa_offersPlace 59 [.ref D, .ref C, .int (nI i), .int (nI r), .int x4, .int x5, u6, u7] [] M bc bs Φ := fun e x4 x5 u6 u7 => by
    rw [if_neg (by rw [e]; decide)] at h
    have hq : L.getD ((i + 1) % L.length) 0 < c_n c := lp _ (Nat.mod_lt _ (by omega))
    have hcall : ∀ y : Int32, y = nI (L.getD ((i + 1) % L.length) 0) → CallVC l G d mDa_offersPlace 109 [.ref D, .ref C, .int (nI i), .int (nI r), .int x4, .int x5, .int (nI (L.getD i 0)), .int y] [] mIf_mustOffer [.ref I, .int (nI (L.getD i 0)), .int y, .int (nI mm / 60)] M bc bs Φ := fun y ey => by
      subst ey
      rw [nI_60 (by omega)]
      refine CallVC.cps0 (by omega) ?_
      refine ct_mustOffer M I A P _ _ _ _ _ _ hI o1 o2 (L.getD i 0) (L.getD ((i + 1) % L.length) 0) (mm / 60) hp hq (by omega) (by omega) (fun M1 hF1 hI1 => ?_)
      have hS1 : FrS (PH I A D) M M1 := FrS.of hF1 (fun a j q => q.elim Or.inl (fun q => Or.inr (Or.inl q)))
      have hu1 : m_i M1 D 5 = nI u := by rw [hF1.1 D (by omega)]; exact hu
      have hDI1 : DIN M1 c D I A P := hDI.fr hS1 hI1 (by unfold PH; omega) (by unfold PH; omega) (by unfold PH; omega) (by unfold PH; omega) (by unfold PH; omega)
      obtain ⟨dd1, -, -, e3, e4, -⟩ := id hDI1
      refine bDa_offersPlace_109 M1 D C _ _ _ _ _ _ _ ⟨fun z => ⟨dd1.1, fun z2 => CallVC.cps0 (by omega) ?_, fun z2 => CallVC.cps0 (by omega) ?_⟩, fun z => ?_⟩
      · have hmu : c_mu c (L.getD i 0) (L.getD ((i + 1) % L.length) 0) (mm / 60) = false := by
          cases hm1 : c_mu c (L.getD i 0) (L.getD ((i + 1) % L.length) 0) (mm / 60) with
          | false => rfl
          | true => rw [hm1] at z; exact absurd z (by decide)
        have hpl : ¬ c_pl c = some (L.getD i 0) := fun q => z2 (by rw [e3]; exact (pl_eq hc hp).mpr q)
        have eo : offS c k bal (mm / 60) (L.getD i 0) (L.getD ((i + 1) % L.length) 0) u = (wayOff c k bal (L.getD i 0) (L.getD ((i + 1) % L.length) 0), u) := by
          unfold offS; rw [if_neg (by rw [hmu]; decide), if_neg hpl]
        rw [eo] at h
        refine ct_offersByWay M1 D I P c hc k dd1 hI1.2.2.1 hI1.2.2.2.1 (fun p hp => by rw [hF1.1 (D + 1) (by omega)]; exact hW p hp) bal (fun p hp => by rw [hF1.1 (D + 10) (by omega)]; exact hB p hp) _ _ hp hq (by omega) ?_
        refine bDa_offersPlace_138 M1 D C _ _ _ _ _ _ _ ⟨?_, h M1 hS1 hI1 hu1⟩
        cases wayOff c k bal (L.getD i 0) (L.getD ((i + 1) % L.length) 0) <;> rfl
      · have hmu : c_mu c (L.getD i 0) (L.getD ((i + 1) % L.length) 0) (mm / 60) = false := by
          cases hm1 : c_mu c (L.getD i 0) (L.getD ((i + 1) % L.length) 0) (mm / 60) with
          | false => rfl
          | true => rw [hm1] at z; exact absurd z (by decide)
        have hpl : c_pl c = some (L.getD i 0) := by rw [e3] at z2; exact (pl_eq hc hp).mp z2
        have eo : offS c k bal (mm / 60) (L.getD i 0) (L.getD ((i + 1) % L.length) 0) u = (planOff c u, u + 1) := by
          unfold offS; rw [if_neg (by rw [hmu]; decide), if_pos hpl]
        rw [eo] at h
        refine ct_offersByPlan M1 D I P c u dd1 (e4 _ hpl) hu1 hu2 ?_
        refine bDa_offersPlace_127 _ D C _ _ _ _ _ _ _ ?_
        have hF2 : Fr (fun a => a = D) M1 (m_si M1 D 5 (nI (u + 1))) := Fr.si1 _ _
        refine bDa_offersPlace_138 _ D C _ _ _ _ _ _ _ ⟨?_, h _ (hS1.tr (FrS.si (Or.inr (Or.inr ⟨rfl, rfl⟩)) _)) (hI1.fr hF2 (by intro a ha; omega)) (by rw [m_i_si, if_pos ⟨rfl, rfl⟩])⟩
        cases planOff c u <;> rfl
      · have hmu : c_mu c (L.getD i 0) (L.getD ((i + 1) % L.length) 0) (mm / 60) = true := by
          cases hm1 : c_mu c (L.getD i 0) (L.getD ((i + 1) % L.length) 0) (mm / 60) with
          | true => rfl
          | false => rw [hm1] at z; exact absurd rfl z
        have eo : offS c k bal (mm / 60) (L.getD i 0) (L.getD ((i + 1) % L.length) 0) u = (true, u) := by
          unfold offS; rw [if_pos hmu]
        rw [eo] at h
        exact h M1 hS1 hI1 hu1
    have e0 : m_i M (m_r M C 0) (nI i).toNatClampNeg = nI (L.getD i 0) := by rw [c1, hcl]; exact a2 i hi
    have hle : ((nI L.length) ≤ (nI i + 1)) ↔ L.length ≤ i + 1 := by rw [nI_1]; exact nI_leI (by omega) (by omega)
    refine bDa_offersPlace_59 M D C _ _ _ _ u6 u7 ⟨c0, by rw [c1, c2], by rw [c1, c2]; exact vp_in_nI (by omega) (by omega), ?_⟩
    rw [e0, a1, a4, d2, hle]
    refine ⟨fun q => ⟨by rw [c1, c2]; exact vp_in_dec rfl, d0, i0, hcall _ ?_⟩, fun q => ⟨by rw [c1, c2, nI_1]; exact vp_in_nI (by omega) (by omega), d0, i0, hcall _ ?_⟩⟩
    · have : (i + 1) % L.length = 0 := by rw [show i + 1 = L.length by omega]; exact Nat.mod_self _
      rw [this, c1]
      exact a2 0 (by omega)
    · have : (i + 1) % L.length = i + 1 := Nat.mod_eq_of_lt (by omega)
      rw [this, c1, nI_1, nI_clamp (by omega)]
      exact a2 (i + 1) (by omega)
  refine Ct.of rfl (Nat.le_of_ble_eq_true rfl) ?_
  have hbell : ¬ (L.length = 1 ∨ (¬ c_nu c 3 = -1 ∧ c_nu c 3 ≤ nI r)) → ∀ x4 : Int32, ∀ u6 u7 : Value, Ev l G d mDa_offersPlace 42 [.ref D, .ref C, .int (nI i), .int (nI r), .int x4, .int (c_nu c 4), u6, u7] [] M bc bs Φ := fun e x4 u6 u7 => by
    refine bDa_offersPlace_42 M D C _ _ _ _ u6 u7 ⟨fun q => hgo (decide_eq_false ?_) _ _ _ _, fun q => ⟨c0, fun q2 => hgo (decide_eq_false ?_) _ _ _ _, fun q2 => hstop (decide_eq_true ?_)⟩⟩
    · rintro (x | x | x)
      · exact e (Or.inl x)
      · exact e (Or.inr x)
      · exact x.1 q
    · rw [a4] at q2
      rintro (x | x | x)
      · exact e (Or.inl x)
      · exact e (Or.inr x)
      · exact x.2 q2
    · rw [a4] at q2
      exact Or.inr (Or.inr ⟨q, q2⟩)
  have h1 : (nI L.length = (1 : Int32)) ↔ L.length = 1 := nI_eq (b := 1) (by omega) (by omega)
  refine bDa_offersPlace_0 M D C _ _ ⟨d0, by rw [d2]; exact i0, by rw [nsh], by rw [nsh]; exact vp_in_dec rfl, by rw [nsh]; exact vp_in_dec rfl, c0, ?_⟩
  rw [n3, n4, a1, h1]
  refine ⟨fun q => hstop (decide_eq_true (Or.inl q)), fun q => ⟨fun q2 => hbell ?_ _ _ _, fun q2 => ⟨fun q3 => hstop (decide_eq_true (Or.inr (Or.inl ⟨q2, q3⟩))), fun q3 => hbell ?_ _ _ _⟩⟩⟩
  · rintro (x | x)
    · exact q x
    · exact x.1 q2
  · rintro (x | x)
    · exact q x
    · exact q3 x.2
/-- what handAlong leaves -/
def haP (c : Cf) (D I A C : Nat) (L : List Nat) (M M' : Mm) (R : Option Nat × Nat) : Prop :=
  FrS (fun a j => PH I A D a j ∨ (a = C ∧ (j = 4 ∨ j = 5)) ∨ (a = D ∧ j = 14)) M M' ∧ m_i M' D 5 = nI R.2 ∧ match R.1 with
    | some t => m_i M' C 5 = nI (L.getD (t % L.length) 0) ∧ m_i M' C 4 = nI t ∧ m_i M' D 14 = m_i M D 14
    | none => m_i M' C 4 = nI L.length ∧ m_i M' C 5 = m_i M C 5 ∧ m_i M' D 14 = 1
theorem handS_succ (off : Nat → Nat → Bool × Nat) (q t u : Nat) : handS off (q + 1) t u = if (off t u).1 = true then handS off q (t + 1) (off t u).2 else (some t, (off t u).2) := rfl
theorem handS_add (off : Nat → Nat → Bool × Nat) : ∀ a b t u, handS off (a + b) t u = match handS off a t u with
    | (some t', u') => (some t', u')
    | (none, u') => handS off b (t + a) u'
  | 0, b, t, u => by rw [Nat.zero_add]; rfl
  | a + 1, b, t, u => by
    rw [show a + 1 + b = (a + b) + 1 by omega]
    rw [handS_succ]
    try rw [handS_succ]
    by_cases h : (off t u).1 = true
    · rw [if_pos h, if_pos h, handS_add off a b, show t + 1 + a = t + (a + 1) by omega]
    · rw [if_neg h, if_neg h]
theorem handS_skip (off : Nat → Nat → Bool × Nat) (u : Nat) : ∀ a t b, (∀ i, i < a → off (t + i) u = (true, u)) → handS off (a + b) t u = handS off b (t + a) u
  | 0, t, b, _ => by rw [Nat.zero_add]; rfl
  | a + 1, t, b, h => by
    have h0 := h 0 (by omega)
    rw [Nat.add_zero] at h0
    rw [show a + 1 + b = (a + b) + 1 by omega]
    rw [handS_succ]
    try rw [handS_succ]
    rw [h0, if_pos rfl, handS_skip off u a (t + 1) b (fun i hi => by rw [show t + 1 + i = t + (i + 1) by omega]; exact h (i + 1) (by omega)), show t + 1 + a = t + (a + 1) by omega]
theorem handS_t (off : Nat → Nat → Bool × Nat) : ∀ a t u t' u', handS off a t u = (some t', u') → t ≤ t' ∧ t' < t + a
  | 0, _, _, _, _, h => by cases h
  | a + 1, t, u, t', u', h => by
    unfold handS at h
    by_cases q : (off t u).1 = true
    · rw [if_pos q] at h
      have := handS_t off a _ _ _ _ h
      omega
    · rw [if_neg q] at h
      cases h
      omega
/-- without a planner a round that is gone through leaves no other way through the next ones -/
theorem handS_all (off : Nat → Nat → Bool × Nat) (u : Nat) (hoff : ∀ t v, (off t v).2 = v) : ∀ a t u', handS off a t u = (none, u') → u' = u ∧ ∀ i, i < a → off (t + i) u = (true, u)
  | 0, t, u', h => by cases h; exact ⟨rfl, fun i hi => absurd hi (Nat.not_lt_zero i)⟩
  | a + 1, t, u', h => by
    unfold handS at h
    by_cases q : (off t u).1 = true
    · rw [if_pos q, hoff] at h
      obtain ⟨e1, e2⟩ := handS_all off u hoff a (t + 1) u' h
      refine ⟨e1, fun i hi => ?_⟩
      cases i with
      | zero => exact Prod.ext q (hoff t u)
      | succ i =>
        have := e2 i (by omega)
        rw [show t + 1 + i = t + (i + 1) by omega] at this
        exact this
    · rw [if_neg q] at h
      cases h
theorem handS_u (off : Nat → Nat → Bool × Nat) (hoff : ∀ t v, (off t v).2 ≤ v + 1) : ∀ a t u, (handS off a t u).2 ≤ u + a
  | 0, _, _ => Nat.le_refl _
  | a + 1, t, u => by
    unfold handS
    have := hoff t u
    by_cases q : (off t u).1 = true
    · rw [if_pos q]
      have := handS_u off hoff a (t + 1) (off t u).2
      omega
    · rw [if_neg q]
      show (off t u).2 ≤ _
      omega
theorem offT_u (c : Cf) (k : Nat) (bal : Nat → Int32) (L : List Nat) (mm : Nat) : ∀ t v, (offT c k bal L mm t v).2 ≤ v + 1 := by
  intro t v
  unfold offT offS
  split
  · omega
  · split
    · omega
    · split <;> simp
theorem offT_u0 (c : Cf) (k : Nat) (bal : Nat → Int32) (L : List Nat) (mm : Nat) (hp : c_pl c = none) : ∀ t v, (offT c k bal L mm t v).2 = v := by
  intro t v
  unfold offT offS
  rw [hp]
  split
  · rfl
  · split
    · rfl
    · rw [if_neg (by simp)]
/-- a CALL is handed along -/
theorem ct_handAlong (M : Mm) (c : Cf) (hc : cfOK c) (D I A P k : Nat) (hDI : DIN M c D I A P) (hW : WYrep M D c k) (bal : Nat → Int32) (hB : BLrep M D bal) (C : Nat) (L : List Nat) (mm : Nat) (hC : CAin M C L mm) (hL : LOK c L) (hm : mm < 999) (hCD : D + 10 < C) (u : Nat) (hu : m_i M D 5 = nI u) (hu2 : u < 2 ^ 20) (hd : 3 < d)
    (h : ∀ M', haP c D I A C L M M' (handS (offT c k bal L mm) (fuelS c L) 0 u) → IFinv M' I A P (c_n c) (c_f c) (c_by c) (c_nu c) (c_mu c) (c_wo c) → Φ (.inl none) M') :
    Ct l G d mDa_handAlong bc bs [.ref D, .ref C] M Φ := by
  have n8 := hc.1
  obtain ⟨l1, l8, lp, -⟩ := id hL
  generalize hR : handS (offT c k bal L mm) (fuelS c L) 0 u = R at h
  -- the invariant
  have hinv : ∀ M', FrS (PH I A D) M M' → IFinv M' I A P (c_n c) (c_f c) (c_by c) (c_nu c) (c_mu c) (c_wo c) → DIN M' c D I A P ∧ WYrep M' D c k ∧ BLrep M' D bal ∧ CAin M' C L mm := fun M' hF hI => by
    obtain ⟨-, -, ⟨o1, o2, o3⟩, -⟩ := id hDI
    exact ⟨hDI.fr hF hI (by unfold PH; omega) (by unfold PH; omega) (by unfold PH; omega) (by unfold PH; omega) (by unfold PH; omega), fun p hp => by rw [hF.1 _ _ (by unfold PH; omega)]; exact hW p hp, fun p hp => by rw [hF.1 _ _ (by unfold PH; omega)]; exact hB p hp, hC.fr hF (by unfold PH; omega) (by unfold PH; omega) (by unfold PH; omega) (fun j => by unfold PH; omega)⟩
  -- a round
  have round : ∀ (x2 x3 lp_ : Int32) (r : Nat), r ≤ 9 → ∀ e i v M', i + e = L.length → FrS (PH I A D) M M' → IFinv M' I A P (c_n c) (c_f c) (c_by c) (c_nu c) (c_mu c) (c_wo c) → m_i M' D 5 = nI v → v + e < 2 ^ 30 →
      (∀ t v', handS (offT c k bal L mm) e (r * L.length + i) v = (some t, v') → R = (some t, v')) →
      (∀ v' M2, handS (offT c k bal L mm) e (r * L.length + i) v = (none, v') → FrS (PH I A D) M M2 → IFinv M2 I A P (c_n c) (c_f c) (c_by c) (c_nu c) (c_mu c) (c_wo c) → m_i M2 D 5 = nI v' → v' ≤ v + e → ∀ w : Value, Ev l G d mDa_handAlong 46 [.ref D, .ref C, .int x2, .int x3, .int lp_, .int (nI r + lp_), w] [] M2 bc bs Φ) →
      Ev l G d mDa_handAlong 55 [.ref D, .ref C, .int x2, .int x3, .int lp_, .int (nI r), .int (nI i)] [] M' bc bs Φ := by
    intro x2 x3 lp_ r hr e
    induction e with
    | zero =>
      intro i v M' hi hF hI hv hv2 _ hn
      obtain ⟨hD', hW', hB', hC'⟩ := hinv M' hF hI
      refine bDa_handAlong_55 M' D C _ _ _ _ _ ⟨hC'.1.1, fun _ => hn v M' rfl hF hI hv (Nat.le_refl _) _, fun q => absurd ?_ q⟩
      rw [hC'.2.1]
      exact nI_le (by omega) (by omega)
    | succ e ih =>
      intro i v M' hi hF hI hv hv2 hs hn
      obtain ⟨hD', hW', hB', hC'⟩ := hinv M' hF hI
      rw [handS_succ] at hs hn
      have hou := offT_u c k bal L mm (r * L.length + i) v
      refine bDa_handAlong_55 M' D C _ _ _ _ _ ⟨hC'.1.1, fun q => absurd q ?_, fun _ => ⟨hD'.1.1, CallVC.cps0 (by omega) ?_⟩⟩
      · rw [hC'.2.1]
        exact nI_not_le (by omega) (by omega)
      · refine ct_offersPlace M' c hc D I A P k hD' hW' bal hB' C L mm hC' hL hm hCD v hv (by omega) i r (by omega) (by omega) (fun M2 hF2 hI2 hv2' => ?_)
        obtain ⟨hD2, hW2, hB2, hC2⟩ := hinv M2 (hF.tr hF2) hI2
        refine bDa_handAlong_73 M2 D C _ _ _ _ _ _ ⟨fun q => ?_, fun q => ?_⟩
        · have q1 : (offT c k bal L mm (r * L.length + i) v).1 = true := by
            cases hq : (offT c k bal L mm (r * L.length + i) v).1 with
            | true => rfl
            | false => rw [hq] at q; exact absurd rfl q
          rw [if_pos q1] at hs hn
          rw [nI_1]
          refine ih (i + 1) _ M2 (by omega) (hF.tr hF2) hI2 hv2' (by omega) hs (fun v' M3 a1 a2 a3 a4 a5 => hn v' M3 a1 a2 a3 a4 (by omega))
        · have q1 : ¬ (offT c k bal L mm (r * L.length + i) v).1 = true := by
            cases hq : (offT c k bal L mm (r * L.length + i) v).1 with
            | false => decide
            | true => rw [hq] at q; exact absurd q (by decide)
          rw [if_neg q1] at hs
          have hR' := hs _ _ rfl
          obtain ⟨c0, c1, c2⟩ := hC2.1
          have et : (r * L.length + i) % L.length = i := by rw [Nat.add_comm, Nat.add_mul_mod_self_right, Nat.mod_eq_of_lt (by omega)]
          refine ⟨c0, by rw [c1, c2], by rw [c1, c2]; exact vp_in_nI (by omega) (by omega), ?_⟩
          rw [c1, nI_clamp (by omega), hC2.2.2.1 i (by omega), m_i_si, if_neg (by omega), hC2.2.1, pk_mul, nI_add]
          obtain ⟨-, -, ⟨o1, o2, o3⟩, -⟩ := id hDI
          refine h _ ⟨?_, ?_, ?_⟩ (hI2.fr (Q := fun a => a = C) ((Fr.si1 _ _).tr (Fr.si1 _ _)) (by intro a ha; omega))
          · exact (((hF.tr hF2).mono (fun a j q => Or.inl q)).tr (FrS.si (Or.inr (Or.inl ⟨rfl, Or.inr rfl⟩)) _)).tr (FrS.si (Or.inr (Or.inl ⟨rfl, Or.inl rfl⟩)) _)
          · rw [m_i_si, if_neg (by omega), m_i_si, if_neg (by omega), hR']
            exact hv2'
          · rw [hR']
            refine ⟨?_, ?_, ?_⟩
            · rw [m_i_si, if_neg (by omega), m_i_si, if_pos ⟨rfl, rfl⟩, et]
            · rw [m_i_si, if_pos ⟨rfl, rfl⟩]
            · rw [m_i_si, if_neg (by omega), m_i_si, if_neg (by omega)]
              exact (hF.tr hF2).1 _ _ (by unfold PH; omega)
  -- nobody goes
  have hlast : ∀ (x2 x3 x4 x5 : Int32) (w : Value) v M', x3 ≤ x5 → R = (none, v) → FrS (PH I A D) M M' → IFinv M' I A P (c_n c) (c_f c) (c_by c) (c_nu c) (c_mu c) (c_wo c) → m_i M' D 5 = nI v → Ev l G d mDa_handAlong 46 [.ref D, .ref C, .int x2, .int x3, .int x4, .int x5, w] [] M' bc bs Φ := fun x2 x3 x4 x5 w v M' hx hRn hF hI hv => by
    obtain ⟨hD', hW', hB', hC'⟩ := hinv M' hF hI
    obtain ⟨-, -, ⟨o1, o2, o3⟩, -⟩ := id hDI
    refine bDa_handAlong_46 M' D C _ _ _ _ w ⟨fun _ => ⟨hC'.1.1, hD'.1.1, ?_⟩, fun q => absurd hx q⟩
    rw [hC'.2.1]
    refine h _ ⟨?_, ?_, ?_⟩ (hI.fr (Q := fun a => a = C ∨ a = D) ((Fr.si (Or.inl rfl) _ _).tr (Fr.si (Or.inr rfl) _ _)) (by intro a ha; omega))
    · exact ((hF.mono (fun a j q => Or.inl q)).tr (FrS.si (Or.inr (Or.inl ⟨rfl, Or.inl rfl⟩)) _)).tr (FrS.si (Or.inr (Or.inr ⟨rfl, rfl⟩)) _)
    · rw [m_i_si, if_neg (by omega), m_i_si, if_neg (by omega), hRn]
      exact hv
    · rw [hRn]
      refine ⟨?_, ?_, ?_⟩
      · rw [m_i_si, if_neg (by omega), m_i_si, if_pos ⟨rfl, rfl⟩]
      · rw [m_i_si, if_neg (by omega), m_i_si, if_neg (by omega)]
        exact hF.1 _ _ (by unfold PH; omega)
      · rw [m_i_si, if_pos ⟨rfl, rfl⟩]
  obtain ⟨⟨d0, d1, d2, d3, -, -, d6, s1, -, -, pb, -⟩, hI, ⟨o1, o2, o3⟩, b3, b4, b6, b7⟩ := id hDI
  obtain ⟨⟨i0, i1, i2, i3, i4, i5, t1, t2, t3⟩, -, hE, hR0, hnu, -⟩ := id hI
  have n3 : m_i M (m_r M (m_r M D 1) 0) (3 : Int32).toNatClampNeg = c_nu c 3 := by rw [d2, i1]; exact hnu 3 (by omega)
  have nsh : m_sh M (m_r M (m_r M D 1) 0) = (20, 10) := by rw [d2, i1]; exact t1
  refine Ct.of rfl (Nat.le_of_ble_eq_true rfl) ?_
  refine bDa_handAlong_0 M D C ⟨d0, by rw [d2]; exact i0, by rw [nsh], by rw [nsh]; exact vp_in_dec rfl, ?_⟩
  rw [n3]
  -- all rounds one by one
  have rounds : ∀ (N : Nat) (x2 : Int32), N ≤ 10 → ∀ m r v (w : Value) M', r + m = N → FrS (PH I A D) M M' → IFinv M' I A P (c_n c) (c_f c) (c_by c) (c_nu c) (c_mu c) (c_wo c) → m_i M' D 5 = nI v → v + m * 8 < 2 ^ 29 → handS (offT c k bal L mm) (m * L.length) (r * L.length) v = R →
      Ev l G d mDa_handAlong 46 [.ref D, .ref C, .int x2, .int (nI N), .int 1, .int (nI r), w] [] M' bc bs Φ := by
    intro N x2 hN m
    induction m with
    | zero =>
      intro r v w M' hr hF hI hv hv2 hRr
      rw [Nat.zero_mul] at hRr
      exact hlast _ _ _ _ w v M' (nI_le (by omega) (by omega)) hRr.symm hF hI hv
    | succ m ih =>
      intro r v w M' hr hF hI hv hv2 hRr
      rw [Nat.succ_mul, Nat.add_comm, handS_add] at hRr
      refine bDa_handAlong_46 M' D C _ _ _ _ w ⟨fun q => absurd q (nI_not_le (by omega) (by omega)), fun _ => ?_⟩
      refine round x2 (nI N) 1 r (by omega) L.length 0 v M' (by omega) hF hI hv (by omega) (fun t v' e => ?_) (fun v' M2 e a1 a2 a3 a4 w2 => ?_)
      · rw [Nat.add_zero] at e
        rw [e] at hRr
        exact hRr.symm
      · rw [Nat.add_zero] at e
        rw [e] at hRr
        rw [nI_1]
        refine ih (r + 1) v' w2 M2 (by omega) a1 a2 a3 (by omega) ?_
        rw [Nat.succ_mul]
        exact hRr
  have hone : ∀ (N : Nat) (x2 : Int32), N ≤ 10 → fuelS c L = N * L.length → Ev l G d mDa_handAlong 36 [.ref D, .ref C, .int x2, .int (nI N), .null, .null, .null] [] M bc bs Φ := fun N x2 hN hf => by
    refine bDa_handAlong_36 M D C _ _ _ _ _ ?_
    refine rounds N x2 hN N 0 u .null M (by omega) (FrS.rf _ _) hI hu (by omega) ?_
    rw [Nat.zero_mul, ← hf]
    exact hR
  refine ⟨fun q => ⟨fun q2 => absurd q2 q, fun _ => ?_⟩, fun q => ⟨fun _ => hone 1 _ (by omega) (by unfold fuelS; rw [if_pos q, Nat.one_mul]), fun q2 => absurd q q2⟩⟩
  rcases hc.2.2.2.2.2.2.1 with q3 | ⟨τ, h1, h9, eτ⟩
  · exact absurd q3 q
  · have hf : fuelS c L = (τ + 1) * L.length := by unfold fuelS; rw [if_neg q, eτ, nI_clamp (by omega)]
    rw [eτ, nI_1, b3]
    refine ⟨fun q4 => ?_, fun q4 => hone (τ + 1) _ (by omega) hf⟩
    have hpl : c_pl c = none := by
      cases hp : c_pl c with
      | none => rfl
      | some p => rw [hp] at q4; exact absurd q4 (nI_neg (by have := hc.2.2.2.2.2.2.2.1 p hp; omega))
    rw [hf] at hR
    -- the first round, then the last
    have hR1 := hR
    rw [Nat.succ_mul, Nat.add_comm, handS_add] at hR1
    refine bDa_handAlong_46 M D C _ _ _ _ _ ⟨fun q5 => absurd q5 (nI_not_le (a := 0) (by omega) (by omega)), fun _ => ?_⟩
    refine round (nI τ) (nI (τ + 1)) (nI τ) 0 (by omega) L.length 0 u M (by omega) (FrS.rf _ _) hI hu (by omega) (fun t v' e => ?_) (fun v' M2 e a1 a2 a3 a4 w2 => ?_)
    · rw [Nat.zero_mul, Nat.add_zero] at e
      rw [e] at hR1
      exact hR1.symm
    · rw [Nat.zero_mul, Nat.add_zero] at e
      obtain ⟨ev, hall⟩ := handS_all _ u (offT_u0 c k bal L mm hpl) _ _ _ e
      subst ev
      have hskip : handS (offT c k bal L mm) (τ * L.length + L.length) 0 v' = handS (offT c k bal L mm) L.length (0 + τ * L.length) v' := by
        refine handS_skip _ _ _ _ _ (fun i hi => ?_)
        have hmod : i % L.length < L.length := Nat.mod_lt _ (by omega)
        have hdiv : i / L.length < τ := Nat.div_lt_of_lt_mul (by rw [Nat.mul_comm]; exact hi)
        have h0 := hall (i % L.length) hmod
        have e0 := offT_at c k bal L mm v' (i % L.length) 0 hmod
        have e1 := offT_at c k bal L mm v' (i % L.length) (i / L.length) hmod
        rw [Nat.zero_mul] at e0
        rw [show i / L.length * L.length + i % L.length = i by rw [Nat.mul_comm]; exact Nat.div_add_mod i L.length] at e1
        rw [Nat.zero_add, e1]
        rw [e0] at h0
        have est : stopS c L mm (i / L.length) = stopS c L mm 0 := by
          have z1 : ¬ c_nu c 3 ≤ nI (i / L.length) := by rw [eτ]; exact nI_not_le (by omega) (by omega)
          have z2 : ¬ c_nu c 3 ≤ nI 0 := by rw [eτ]; exact nI_not_le (by omega) (by omega)
          unfold stopS
          simp only [z1, z2]
        rw [est]
        exact h0
      rw [Nat.succ_mul, hskip, Nat.zero_add] at hR
      rw [show (nI 0 + nI τ) = nI τ by rw [nI_add, Nat.zero_add]]
      refine bDa_handAlong_46 M2 D C _ _ _ _ w2 ⟨fun q5 => absurd q5 (nI_not_le (by omega) (by omega)), fun _ => ?_⟩
      refine round (nI τ) (nI (τ + 1)) (nI τ) τ (by omega) L.length 0 v' M2 (by omega) a1 a2 a3 (by omega) (fun t v2 e2 => ?_) (fun v2 M3 e2 b1 b2 b3 b4 w3 => ?_)
      · rw [Nat.add_zero] at e2
        rw [e2] at hR
        exact hR.symm
      · rw [Nat.add_zero] at e2
        rw [e2] at hR
        rw [nI_add]
        exact hlast _ _ _ _ w3 v2 M3 (nI_le (by omega) (by omega)) hR.symm b1 b2 b3
end SDH
