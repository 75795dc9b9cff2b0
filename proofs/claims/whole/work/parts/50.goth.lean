/-! ===== Day: goThrough, prepare ===== -/
def DSt (M : Mm) (c : Cf) (D I A P : Nat) (s : Sg) : Prop := DS0 M c D I A P s ∧ m_i M D 10 = nI (g_cs s).length ∧ m_i M D 14 = (if g_el s = true then 1 else 0) ∧ m_i M D 15 = nI (g_fr s) ∧ m_i M D 5 = nI (g_u s)
def WYb (M : Mm) (D : Nat) (c : Cf) (k : Nat) : Prop := ∀ p, p < c_n c → m_i M (D + 1) p = nI (if c_tu c = some p ∧ c_tc c < nI k then c_tw c else c_wy c p)
def PG (D I A : Nat) : Nat → Nat → Prop := fun a j => a = I + 2 ∨ a = I + 3 ∨ a = A + 6 ∨ (D ≤ a ∧ a < D + 27 ∧ ¬ (a = D ∧ (j = 3 ∨ j = 4 ∨ j = 6 ∨ j = 7 ∨ j = 8 ∨ j = 16)))
theorem PBL.idx {c : Cf} (hc : cfOK c) {s : Sg} (h : SOK c s) : ∀ i, i < (g_ps s).length → p_g (g_ps s) i < 8 ∧ p_t (g_ps s) i < 8 ∧ p_g (g_ps s) i ≠ p_t (g_ps s) i := fun i hi => by
  have hm : (g_ps s).getD i pr0 ∈ g_ps s := by
    rw [List.getD_eq_getElem?_getD, List.getElem?_eq_getElem hi]
    exact List.getElem_mem hi
  have := h.2.2.2.2.2.2.1 _ hm
  have n8 := hc.1
  unfold p_g p_t
  omega
theorem lt_succ32 {x : Int32} {k : Nat} (hk : k + 1 < 2 ^ 31) : x < nI (k + 1) ↔ x ≤ nI k := by
  rw [Int32.lt_iff_toInt_lt, Int32.le_iff_toInt_le, nI_toInt hk, nI_toInt (by omega)]
  omega
theorem dayS_el (c : Cf) (j : Nat) {s : Sg} (h : g_el s = true) : dayS c (j + 1) s = s := by
  show (if g_el s = true then s else _) = s
  rw [if_pos h]
theorem dayS_none (c : Cf) (j : Nat) {s : Sg} (h : g_el s = false) (hm : minS c s = none) : dayS c (j + 1) s = s := by
  show (if g_el s = true then s else match minS c s with
    | none => s
    | some mm => dayS c j (calS c s mm (thN c mm (g_sv s) (c_n c)))) = s
  rw [if_neg (by rw [h]; decide), hm]
theorem dayS_some (c : Cf) (j : Nat) {s : Sg} {mm : Nat} (h : g_el s = false) (hm : minS c s = some mm) : dayS c (j + 1) s = dayS c j (calS c s mm (thN c mm (g_sv s) (c_n c))) := by
  show (if g_el s = true then s else match minS c s with
    | none => s
    | some mm => dayS c j (calS c s mm (thN c mm (g_sv s) (c_n c)))) = _
  rw [if_neg (by rw [h]; decide), hm]
def dueO (c : Cf) (s : Sg) (mm : Nat) (L : List Nat) : Option Nat := if c_nu c 2 = -1 then none else dueX (balL (g_ps s) mm (c_nu c 7)) (c_nu c 2) L L.length
def handO (c : Cf) (s : Sg) (mm : Nat) (L : List Nat) : Option Nat × Nat := handS (offT c (g_cs s).length (balL (g_ps s) mm (c_nu c 7)) L mm) (fuelS c L) 0 (g_u s)
def elS (s : Sg) (mm : Nat) (L : List Nat) (u : Nat) : Sg := (g_cs s ++ [(L, thBits L, mm, L.length, -1, -1, false)], g_ps s, g_sv s, g_eo s, mm, true, u, g_gs s)
theorem calS_due {c : Cf} {s : Sg} {mm : Nat} {L : List Nat} {g : Nat} (h : dueO c s mm L = some g) : calS c s mm L = endS c s mm L true 0 g (g_u s) := by
  unfold dueO at h
  unfold calS
  rw [h]
theorem calS_go {c : Cf} {s : Sg} {mm : Nat} {L : List Nat} {t u : Nat} (h : dueO c s mm L = none) (h2 : handO c s mm L = (some t, u)) : calS c s mm L = endS c s mm L false t (t % L.length) u := by
  unfold dueO at h
  unfold handO at h2
  unfold calS
  rw [h, h2]
theorem calS_el {c : Cf} {s : Sg} {mm : Nat} {L : List Nat} {u : Nat} (h : dueO c s mm L = none) (h2 : handO c s mm L = (none, u)) : calS c s mm L = elS s mm L u := by
  unfold dueO at h
  unfold handO at h2
  unfold calS
  rw [h, h2]
  rfl
section SDG
variable {l : Launch} {G : Gx} {d : Nat} {bc bs : Nat} {Φ : OutV → Mm → Prop}
theorem gt_211 (M : Mm) (c : Cf) (hc : cfOK c) (D I A P : Nat) (hO : P + 2 < A ∧ A + 6 < I ∧ I + 3 < D) (hd : 5 < d) (s : Sg) (M' : Mm) (x : Int32) (u2 u3 : Value) (hS : SOK c s) (hDS : DSt M' c D I A P s) (hF : FrS (PG D I A) M M')
    (h : ∀ M', FrS (PG D I A) M M' → DSt M' c D I A P s → BLrep M' D (balL (g_ps s) (g_fr s) (c_nu c 7)) → Φ (.inl none) M') : Ev l G d mDa_goThrough 211 [.ref D, .int x, u2, u3] [] M' bc bs Φ := by
  have n8 := hc.1
  obtain ⟨o1, o2, o3⟩ := hO
  obtain ⟨hD0, q10, q14, q15, q5⟩ := id hDS
  obtain ⟨hDI', hP', -⟩ := id hD0
  obtain ⟨⟨d0, d1, d2, d3, d9, d11, d12, s1, s2, s3, pb, dk⟩, hI', -⟩ := id hDI'
  obtain ⟨⟨i0, i1, i2, i3, i4, i5, t1, t2, t3⟩, -, hE, hR, hnu, -⟩ := id hI'
  have n7 : m_i M' (m_r M' (m_r M' D 1) 0) (7 : Int32).toNatClampNeg = c_nu c 7 := by rw [d2, i1]; exact hnu 7 (by omega)
  have nsh : m_sh M' (m_r M' (m_r M' D 1) 0) = (20, 10) := by rw [d2, i1]; exact t1
  refine bDa_goThrough_211 M' D x u2 u3 ⟨d0, by rw [d2]; exact i0, by rw [nsh], by rw [nsh]; exact vp_in_dec rfl, by rw [d12]; exact pb.1, CallVC.cps0 (by omega) ?_⟩
  rw [n7, d12, q15]
  refine ct_balanceAt M' (D + 4) _ _ _ _ _ pb hP' (by have := hS.2.2.2.2.2.1; omega) (PBL.idx hc hS) _ _ (by omega) ?_
  refine bDa_goThrough_232 _ D x u2 u3 ?_
  have hFr : FrS (fun a _ => a = D + 10) M' (m_row M' (D + 4 + 6) (fun j => if j < 8 then balS (p_g (g_ps s)) (p_t (g_ps s)) (p_w (g_ps s)) (p_m (g_ps s)) (nI (g_fr s)) (c_nu c 7) j (g_ps s).length else m_i M' (D + 4 + 6) j)) := FrS.row (fun j => rfl) _
  refine h _ (hF.tr (hFr.mono (fun a j q => by unfold PG; omega))) ⟨hD0.fr hFr (hI'.fr (hFr.fr (fun a j q => q)) (by intro a ha; omega)) (fun a j q => by omega), ?_, ?_, ?_, ?_⟩ (fun p hp => ?_)
  · rw [hFr.1 _ _ (by omega)]; exact q10
  · rw [hFr.1 _ _ (by omega)]; exact q14
  · rw [hFr.1 _ _ (by omega)]; exact q15
  · rw [hFr.1 _ _ (by omega)]; exact q5
  · rw [m_i_rowS, if_pos hp]
    rfl
/-- a CALL at which somebody goes -/
theorem gt_200 (M : Mm) (c : Cf) (hc : cfOK c) (D I A P : Nat) (hO : P + 2 < A ∧ A + 6 < I ∧ I + 3 < D) (hd : 5 < d) (s : Sg) (hS : SOK c s) (k : Nat) (hk : k < 8) (hlen : (g_cs s).length = k) (mm : Nat) (m2 : mm < 999) (L : List Nat) (hL : LOK c L) (b3 : (g_gs s).length + L.length ≤ 8) (C : Nat) (hCC : D + 11 + 2 * k = C)
    (M7 : Mm) (x3 : Int32) (un : Bool) (off g u' : Nat) (hD7 : DS0 M7 c D I A P s) (hC7 : CAin M7 C L mm) (hg : g < L.length) (w5 : m_i M7 C 5 = nI (L.getD g 0)) (w4 : m_i M7 C 4 = nI off) (w7 : m_i M7 C 7 = (if un = true then 1 else 0)) (wu : m_i M7 D 5 = nI u') (w14 : m_i M7 D 14 = 0) (w10 : m_i M7 D 10 = nI (k + 1)) (hW7 : WYrep M7 D c k) (hF7 : FrS (PG D I A) M M7)
    (hN : ∀ M8 (u2 u3 : Value), (g_cs (endS c s mm L un off g u')).length = k + 1 → DSt M8 c D I A P (endS c s mm L un off g u') → WYb M8 D c (k + 1) → FrS (PG D I A) M M8 → Ev l G d mDa_goThrough 43 [.ref D, .int (nI (k + 1)), u2, u3] [] M8 bc bs Φ) : Ev l G d mDa_goThrough 200 [.ref D, .int (nI k), .ref C, .int x3] [] M7 bc bs Φ := by
  have n8 := hc.1
  obtain ⟨o1, o2, o3⟩ := hO
  obtain ⟨hDI7, hP7, hEo7, h137, hcs7⟩ := id hD7
  refine bDa_goThrough_200 M7 D _ C _ ⟨hDI7.1.1, CallVC.cps0 (by omega) ?_⟩
  have htri : g ≤ tri (8 - (g_gs s).length) := by
    rw [show 8 - (g_gs s).length = (7 - (g_gs s).length) + 1 by omega]
    show g ≤ tri _ + _
    omega
  have h28 := hS.2.2.2.2.2.1
  refine ct_endCall M7 c hc D I A P hDI7 C L mm hC7 hL m2 (by omega) g hg w5 off w4 un w7 (g_sv s) hS.2.2.2.1 h137 (g_ps s) hP7 (by omega) (by omega) (fun M8 hF8 hI8 hP8 y6 ye y13 y15 => ?_)
  refine bDa_goThrough_205 M8 D _ C _ ?_
  rw [nI_1]
  have hb := bow_eq hc mm off (L.getD g 0)
  have hDI8 : DIN M8 c D I A P := hDI7.fr hF8 hI8 (by unfold PE PL; omega) (by unfold PE PL; omega) (by unfold PE PL; omega) (by unfold PE PL; omega) (by unfold PE PL; omega)
  have hcl : (g_cs (endS c s mm L un off g u')).length = k + 1 := by
    show (g_cs s ++ [_]).length = _
    rw [List.length_append, hlen]
    rfl
  refine hN M8 _ _ hcl ⟨⟨hDI8, ?_, fun p hp => ?_, y13, fun k' hk' => ?_⟩, ?_, ?_, ?_, ?_⟩ ?_ (hF7.tr (hF8.mono (fun a j q => by unfold PE PL at q; unfold PG; omega)))
  · exact hP8
  · rw [ye]
    show _ = if p = L.getD g 0 then _ else _
    rw [hEo7 p hp]
  · rw [hcl] at hk'
    show CArep M8 (D + 11 + 2 * k') ((g_cs s ++ [(L, thBits L, mm, off, nI (L.getD g 0), nI mm + c_nu c 6 * nI off + c_f c (L.getD g 0) 3, un)]).getD k' cr0)
    rw [getD_app, hlen]
    by_cases z : k' < k
    · rw [if_pos z]
      exact (hcs7 k' (by omega)).fr hF8 (fun j => by unfold PE PL; omega) (fun j => by unfold PE PL; omega)
    · have : k' = k := by omega
      subst this
      rw [if_neg z, if_pos rfl, hCC]
      refine ⟨hC7.fr hF8 (by unfold PE PL; omega) (by unfold PE PL; omega) (by unfold PE PL; omega) (fun j => by unfold PE PL; omega), ?_, ?_, ?_, y6, ?_⟩
      · rw [hF8.1 _ _ (by unfold PE PL; omega)]; exact hC7.2.2.2.1
      · rw [hF8.1 _ _ (by unfold PE PL; omega)]; exact w4
      · rw [hF8.1 _ _ (by unfold PE PL; omega)]; exact w5
      · rw [hF8.1 _ _ (by unfold PE PL; omega)]; exact w7
  · rw [hF8.1 _ _ (by unfold PE PL; omega), hcl]; exact w10
  · rw [hF8.1 _ _ (by unfold PE PL; omega)]; exact w14
  · rw [y15]; exact hb
  · rw [hF8.1 _ _ (by unfold PE PL; omega)]; exact wu
  · intro p hp
    rw [hF8.1 _ _ (by unfold PE PL; omega), hW7 p hp]
    unfold wyAt
    simp only [lt_succ32 (show k + 1 < 2 ^ 31 by omega)]
theorem gt_168 (M : Mm) (c : Cf) (hc : cfOK c) (D I A P : Nat) (hO : P + 2 < A ∧ A + 6 < I ∧ I + 3 < D) (hd : 5 < d) (s : Sg) (hS : SOK c s) (k : Nat) (hk : k < 8) (hlen : (g_cs s).length = k) (mm : Nat) (m2 : mm < 999) (L : List Nat) (hL : LOK c L) (b3 : (g_gs s).length + L.length ≤ 8) (C : Nat) (hCC : D + 11 + 2 * k = C)
    (M4 : Mm) (x3 : Int32) (hD4 : DS0 M4 c D I A P s) (hC4 : CAin M4 C L mm) (w4 : m_i M4 C 4 = 0) (wu : m_i M4 D 5 = nI (g_u s)) (w14 : m_i M4 D 14 = 0) (w10 : m_i M4 D 10 = nI (k + 1)) (hW4 : WYrep M4 D c k) (hB4 : BLrep M4 D (balL (g_ps s) mm (c_nu c 7))) (w6 : m_i M4 C 6 = -1) (hF4 : FrS (PG D I A) M M4)
    (hN : ∀ M8 (u2 u3 : Value), (g_cs (calS c s mm L)).length = k + 1 → DSt M8 c D I A P (calS c s mm L) → WYb M8 D c (k + 1) → FrS (PG D I A) M M8 → Ev l G d mDa_goThrough 43 [.ref D, .int (nI (k + 1)), u2, u3] [] M8 bc bs Φ) : Ev l G d mDa_goThrough 168 [.ref D, .int (nI k), .ref C, .int x3] [.int (goX L (dueO c s mm L)), .ref C] M4 bc bs Φ := by
  have n8 := hc.1
  obtain ⟨o1, o2, o3⟩ := id hO
  have hgo : ∀ g, dueO c s mm L = some g → g < L.length := fun g eg => by
    unfold dueO at eg
    split at eg
    · cases eg
    · exact dueX_lt _ _ eg
  have w5 : ∀ v : Int32, m_i (m_si M4 C 5 v) C 5 = v := fun v => by rw [m_i_si, if_pos ⟨rfl, rfl⟩]
  refine bDa_goThrough_168 M4 D _ C _ C _ ⟨hC4.1.1, hC4.1.1, ?_⟩
  rw [w5]
  have hF6 : ∀ v x : Int32, FrS (fun a j => a = C ∧ (j = 5 ∨ j = 7)) M4 (m_si (m_si M4 C 5 v) C 7 x) := fun v x => (FrS.si ⟨rfl, Or.inl rfl⟩ _).tr (FrS.si ⟨rfl, Or.inr rfl⟩ _)
  have hI6 : ∀ v x : Int32, IFinv (m_si (m_si M4 C 5 v) C 7 x) I A P (c_n c) (c_f c) (c_by c) (c_nu c) (c_mu c) (c_wo c) := fun v x => hD4.1.2.1.fr ((hF6 v x).fr (Q := fun a => a = C) (fun a j q => q.1)) (by intro a ha; omega)
  have hD6 : ∀ v x : Int32, DS0 (m_si (m_si M4 C 5 v) C 7 x) c D I A P s := fun v x => hD4.fr (hF6 v x) (hI6 v x) (fun a j q => by omega)
  have hC6 : ∀ v x : Int32, CAin (m_si (m_si M4 C 5 v) C 7 x) C L mm := fun v x => hC4.fr (hF6 v x) (by omega) (by omega) (by omega) (fun j => by omega)
  have w76 : ∀ v x : Int32, m_i (m_si (m_si M4 C 5 v) C 7 x) C 7 = x := fun v x => by rw [m_i_si, if_pos ⟨rfl, rfl⟩]
  have w56 : ∀ v x : Int32, m_i (m_si (m_si M4 C 5 v) C 7 x) C 5 = v := fun v x => by rw [m_i_si, if_neg (by omega), w5]
  have wD : ∀ (v x : Int32) (j : Nat), m_i (m_si (m_si M4 C 5 v) C 7 x) D j = m_i M4 D j := fun v x j => (hF6 v x).1 _ _ (by omega)
  have hMF6 : ∀ v x : Int32, FrS (PG D I A) M (m_si (m_si M4 C 5 v) C 7 x) := fun v x => hF4.tr ((hF6 v x).mono (fun a j q => by unfold PG; omega))
  cases ho : dueO c s mm L with
  | some g =>
    have hg := hgo g ho
    have hgn := hL.2.2.1 g hg
    refine ⟨fun q => absurd q (nI_neg (by omega)), fun _ => ?_⟩
    refine bDa_goThrough_188 _ D _ C _ ⟨hC4.1.1, fun _ => ?_, fun q => absurd q (by rw [w76]; decide)⟩
    refine gt_200 M c hc D I A P hO hd s hS k hk hlen mm m2 L hL b3 C hCC _ _ true 0 g (g_u s) (hD6 _ _) (hC6 _ _) hg (w56 _ _) ?_ (w76 _ _) ?_ ?_ ?_ (fun p hp => ?_) (hMF6 _ _) ?_
    · rw [(hF6 _ _).1 _ _ (by omega)]; exact w4
    · rw [wD]; exact wu
    · rw [wD]; exact w14
    · rw [wD]; exact w10
    · rw [(hF6 _ _).1 _ _ (by omega)]; exact hW4 p hp
    · rw [calS_due ho] at hN; exact hN
  | none =>
    refine ⟨fun _ => ?_, fun q => absurd rfl q⟩
    have hC6' := hC6 (goX L none) 0
    refine bDa_goThrough_188 _ D _ C _ ⟨hC4.1.1, fun q => absurd (w76 _ _) q, fun _ => ⟨hD4.1.1.1, CallVC.cps0 (by omega) ?_⟩⟩
    have hu := hS.2.2.2.2.2.2.2.2.1
    refine ct_handAlong _ c hc D I A P k (hD6 _ _).1 (fun p hp => by rw [(hF6 _ _).1 _ _ (by omega)]; exact hW4 p hp) (balL (g_ps s) mm (c_nu c 7)) (fun p hp => by rw [(hF6 _ _).1 _ _ (by omega)]; exact hB4 p hp) C L mm hC6' hL m2 (by omega) (g_u s) (by rw [wD]; exact wu) (by omega) (by omega) (fun M7 hh hI7 => ?_)
    obtain ⟨hF7, wu7, hh⟩ := hh
    have hF7' : FrS (fun a j => a = I + 2 ∨ a = A + 6 ∨ (a = D ∧ (j = 5 ∨ j = 14)) ∨ (a = C ∧ (j = 4 ∨ j = 5))) (m_si (m_si M4 C 5 (goX L none)) C 7 0) M7 := hF7.mono (fun a j q => by unfold PH at q; omega)
    have hD7 : DS0 M7 c D I A P s := (hD6 _ _).fr hF7' hI7 (fun a j q => by omega)
    have hC7 : CAin M7 C L mm := hC6'.fr hF7' (by omega) (by omega) (by omega) (fun j => by omega)
    have hMF7 : FrS (PG D I A) M M7 := (hMF6 _ _).tr (hF7'.mono (fun a j q => by unfold PG; omega))
    have hW7 : WYrep M7 D c k := fun p hp => by rw [hF7'.1 _ _ (by omega), (hF6 _ _).1 _ _ (by omega)]; exact hW4 p hp
    have w10' : m_i M7 D 10 = nI (k + 1) := by rw [hF7'.1 _ _ (by omega), wD]; exact w10
    have w7' : m_i M7 C 7 = 0 := by rw [hF7'.1 _ _ (by omega)]; exact w76 _ _
    cases hr : handS (offT c k (balL (g_ps s) mm (c_nu c 7)) L mm) (fuelS c L) 0 (g_u s) with
    | mk o u' =>
      rw [hr] at hh wu7
      have hr' : handO c s mm L = (o, u') := by unfold handO; rw [hlen]; exact hr
      cases o with
      | some t =>
        obtain ⟨x5, x4, x14⟩ := hh
        exact gt_200 M c hc D I A P hO hd s hS k hk hlen mm m2 L hL b3 C hCC M7 _ false t (t % L.length) u' hD7 hC7 (Nat.mod_lt _ hL.1) x5 x4 w7' wu7 (by rw [x14, wD]; exact w14) w10' hW7 hMF7 (by rw [calS_go ho hr'] at hN; exact hN)
      | none =>
        obtain ⟨x4, x5, x14⟩ := hh
        have x5' : m_i M7 C 5 = -1 := by rw [x5]; exact w56 _ _
        refine bDa_goThrough_200 M7 D _ C _ ⟨hD7.1.1.1, CallVC.cps0 (by omega) ?_⟩
        refine ct_endCallN M7 D C hD7.1.1.1 hC7.1.1 x5' ?_
        rw [hC7.2.2.2.2]
        refine bDa_goThrough_205 _ D _ C _ ?_
        rw [nI_1]
        have hF8 : FrS (fun a j => a = D ∧ j = 15) M7 (m_si M7 D 15 (nI mm)) := FrS.si ⟨rfl, rfl⟩ _
        have hI8 := hI7.fr (hF8.fr (Q := fun a => a = D) (fun a j q => q.1)) (by intro a ha; omega)
        have hD8 : DS0 (m_si M7 D 15 (nI mm)) c D I A P s := hD7.fr hF8 hI8 (fun a j q => by omega)
        rw [calS_el ho hr'] at hN
        have hcl : (g_cs (elS s mm L u')).length = k + 1 := by
          show (g_cs s ++ [_]).length = _
          rw [List.length_append, hlen]
          rfl
        refine hN _ _ _ hcl ⟨⟨hD8.1, hD8.2.1, hD8.2.2.1, hD8.2.2.2.1, fun k' hk' => ?_⟩, ?_, ?_, ?_, ?_⟩ ?_ (hMF7.tr (hF8.mono (fun a j q => by unfold PG; omega)))
        · have hk2 : k' < k + 1 := by rw [← hcl]; exact hk'
          show CArep _ (D + 11 + 2 * k') ((g_cs s ++ [(L, thBits L, mm, L.length, (-1 : Int32), (-1 : Int32), false)]).getD k' cr0)
          rw [getD_app, hlen]
          by_cases z : k' < k
          · rw [if_pos z]
            exact hD8.2.2.2.2 k' (by omega)
          · have : k' = k := by omega
            subst this
            rw [if_neg z, if_pos rfl, hCC]
            refine ⟨hC7.fr hF8 (by omega) (by omega) (by omega) (fun j => by omega), ?_, ?_, ?_, ?_, ?_⟩
            · rw [hF8.1 _ _ (by omega)]; exact hC7.2.2.2.1
            · rw [hF8.1 _ _ (by omega)]; exact x4
            · rw [hF8.1 _ _ (by omega)]; exact x5'
            · rw [hF8.1 _ _ (by omega), hF7'.1 _ _ (by omega), (hF6 _ _).1 _ _ (by omega)]; exact w6
            · rw [hF8.1 _ _ (by omega)]; exact w7'
        · rw [hF8.1 _ _ (by omega)]
          rw [hcl]; exact w10'
        · rw [hF8.1 _ _ (by omega)]; exact x14
        · rw [m_i_si, if_pos ⟨rfl, rfl⟩]; rfl
        · rw [hF8.1 _ _ (by omega)]; exact wu7
        · intro p hp
          rw [hF8.1 _ _ (by omega), hW7 p hp]
          unfold wyAt
          simp only [lt_succ32 (show k + 1 < 2 ^ 31 by omega)]
theorem gt_115 (M : Mm) (c : Cf) (hc : cfOK c) (D I A P : Nat) (hO : P + 2 < A ∧ A + 6 < I ∧ I + 3 < D) (hd : 5 < d) (s : Sg) (hS : SOK c s) (k : Nat) (hk : k < 8) (hlen : (g_cs s).length = k) (mm : Nat) (m2 : mm < 999) (L : List Nat) (hL : LOK c L) (b3 : (g_gs s).length + L.length ≤ 8) (C : Nat) (hCC : D + 11 + 2 * k = C)
    (M3 : Mm) (u3 : Value) (hD3 : DS0 M3 c D I A P s) (hC3 : CAin M3 C L mm) (w4 : m_i M3 C 4 = 0) (w6 : m_i M3 C 6 = -1) (wu : m_i M3 D 5 = nI (g_u s)) (w14 : m_i M3 D 14 = 0) (w10 : m_i M3 D 10 = nI (k + 1)) (hW3 : WYrep M3 D c k) (hMF3 : FrS (PG D I A) M M3)
    (hN : ∀ M8 (u2 u3 : Value), (g_cs (calS c s mm L)).length = k + 1 → DSt M8 c D I A P (calS c s mm L) → WYb M8 D c (k + 1) → FrS (PG D I A) M M8 → Ev l G d mDa_goThrough 43 [.ref D, .int (nI (k + 1)), u2, u3] [] M8 bc bs Φ) : Ev l G d mDa_goThrough 115 [.ref D, .int (nI k), .ref C, u3] [] M3 bc bs Φ := by
  have n8 := hc.1
  obtain ⟨o1, o2, o3⟩ := id hO
  have hI3 := hD3.1.2.1
  obtain ⟨⟨e0, e1, e2', e3, e9, e11, e12, z1, z2, z3, pb3, dk3⟩, -⟩ := id hD3.1
  obtain ⟨⟨i0, i1, i2, i3, i4, i5, t1, t2, t3⟩, -, hE, hR, hnu, -⟩ := id hI3
  have nsh : m_sh M3 (m_r M3 (m_r M3 D 1) 0) = (20, 10) := by rw [e2', i1]; exact t1
  have n7 : m_i M3 (m_r M3 (m_r M3 D 1) 0) (7 : Int32).toNatClampNeg = c_nu c 7 := by rw [e2', i1]; exact hnu 7 (by omega)
  refine bDa_goThrough_115 M3 D _ C _ ⟨e0, hC3.1.1, by rw [e2']; exact i0, by rw [nsh], by rw [nsh]; exact vp_in_dec rfl, by rw [e12]; exact pb3.1, CallVC.cps0 (by omega) ?_⟩
  rw [n7, e12, hC3.2.2.2.2]
  refine ct_balanceAt M3 (D + 4) _ _ _ _ _ pb3 hD3.2.1 (by have := hS.2.2.2.2.2.1; omega) (PBL.idx hc hS) _ _ (by omega) ?_
  have hF4 : FrS (fun a _ => a = D + 10) M3 (m_row M3 (D + 4 + 6) (fun j => if j < 8 then balS (p_g (g_ps s)) (p_t (g_ps s)) (p_w (g_ps s)) (p_m (g_ps s)) (nI mm) (c_nu c 7) j (g_ps s).length else m_i M3 (D + 4 + 6) j)) := FrS.row (fun j => rfl) _
  have hB4 : BLrep (m_row M3 (D + 4 + 6) (fun j => if j < 8 then balS (p_g (g_ps s)) (p_t (g_ps s)) (p_w (g_ps s)) (p_m (g_ps s)) (nI mm) (c_nu c 7) j (g_ps s).length else m_i M3 (D + 4 + 6) j)) D (balL (g_ps s) mm (c_nu c 7)) := fun p hp => by rw [m_i_rowS, if_pos hp]; rfl
  generalize m_row M3 (D + 4 + 6) (fun j => if j < 8 then balS (p_g (g_ps s)) (p_t (g_ps s)) (p_w (g_ps s)) (p_m (g_ps s)) (nI mm) (c_nu c 7) j (g_ps s).length else m_i M3 (D + 4 + 6) j) = M4 at hF4 hB4
  have hI4 := hI3.fr (hF4.fr (Q := fun a => a = D + 10) (fun a j q => q)) (by intro a ha; omega)
  have hD4 : DS0 M4 c D I A P s := hD3.fr hF4 hI4 (fun a j q => by omega)
  have hC4 : CAin M4 C L mm := hC3.fr hF4 (by omega) (by omega) (by omega) (fun j => by omega)
  have nsh4 : m_sh M4 (m_r M4 (m_r M4 D 1) 0) = (20, 10) := by rw [hD4.1.1.2.2.1, hI4.1.2.1]; exact hI4.1.2.2.2.2.2.2.1
  have n2 : m_i M4 (m_r M4 (m_r M4 D 1) 0) (2 : Int32).toNatClampNeg = c_nu c 2 := by rw [hD4.1.1.2.2.1, hI4.1.2.1]; exact hI4.2.2.2.2.1 2 (by omega)
  have e12' : m_r M4 D 12 = D + 4 := hD4.1.1.2.2.2.2.2.2.1
  have pb4 : PBok M4 (D + 4) := pb3.of hF4.2.1 hF4.2.2.2.1
  have k168 := gt_168 (bc := bc) (bs := bs) M c hc D I A P hO hd s hS k hk hlen mm m2 L hL b3 C hCC M4 (c_nu c 2) hD4 hC4 (by rw [hF4.1 _ _ (by omega)]; exact w4) (by rw [hF4.1 _ _ (by omega)]; exact wu) (by rw [hF4.1 _ _ (by omega)]; exact w14) (by rw [hF4.1 _ _ (by omega)]; exact w10) (fun p hp => by rw [hF4.1 _ _ (by omega)]; exact hW3 p hp) hB4 (by rw [hF4.1 _ _ (by omega)]; exact w6) (hMF3.tr (hF4.mono (fun a j q => by unfold PG; omega))) hN
  refine bDa_goThrough_136 M4 D _ C _ ⟨hD4.1.1.1, by rw [hD4.1.1.2.2.1]; exact hI4.1.1, by rw [nsh4], by rw [nsh4]; exact vp_in_dec rfl, ?_⟩
  rw [n2]
  refine ⟨fun q => ⟨by rw [e12']; exact pb4.1, hC4.1.1, CallVC.cps0 (by omega) ?_⟩, fun q => ?_⟩
  · rw [e12', pb4.2.2.2.2.2.2.1]
    refine ct_dueOne M4 C (D + 4 + 6) c hc L mm (balL (g_ps s) mm (c_nu c 7)) (c_nu c 2) hC4 hL pb4.2.2.2.2.2.2.2.2.2.2.2.2 hB4 ?_
    unfold dueO at k168
    rw [if_neg q] at k168
    exact k168
  · unfold dueO at k168
    rw [if_pos q] at k168
    rw [q]
    rw [q] at k168
    exact k168
theorem gt_66 (M : Mm) (c : Cf) (hc : cfOK c) (D I A P : Nat) (hO : P + 2 < A ∧ A + 6 < I ∧ I + 3 < D) (hd : 5 < d) (s : Sg) (hS : SOK c s) (k : Nat) (hk : k < 8) (hlen : (g_cs s).length = k) (mm : Nat) (m2 : mm < 999) (L : List Nat) (hL : LOK c L) (b3 : (g_gs s).length + L.length ≤ 8) (C : Nat) (hCC : D + 11 + 2 * k = C)
    (M1 : Mm) (u2 u3 : Value) (hD1 : DS0 M1 c D I A P s) (hC1 : CAin M1 C L mm) (w4 : m_i M1 C 4 = 0) (w6 : m_i M1 C 6 = -1) (wu : m_i M1 D 5 = nI (g_u s)) (w14 : m_i M1 D 14 = 0) (c10 : m_i M1 D 10 = nI k) (hWb : WYb M1 D c k) (hMF1 : FrS (PG D I A) M M1)
    (hN : ∀ M8 (u2 u3 : Value), (g_cs (calS c s mm L)).length = k + 1 → DSt M8 c D I A P (calS c s mm L) → WYb M8 D c (k + 1) → FrS (PG D I A) M M8 → Ev l G d mDa_goThrough 43 [.ref D, .int (nI (k + 1)), u2, u3] [] M8 bc bs Φ) : Ev l G d mDa_goThrough 66 [.ref D, .int (nI k), u2, u3] [.int 1] M1 bc bs Φ := by
  have n8 := hc.1
  obtain ⟨o1, o2, o3⟩ := id hO
  obtain ⟨⟨d0, d1, d2, d3, d9, d11, d12, s1, s2, s3, pb, dk⟩, hI1, -, pl3, pl4, tu6, tu7⟩ := id hD1.1
  obtain ⟨kr, kc⟩ := dk k hk
  rw [hCC] at kr kc
  have h115 : ∀ M3, FrS (fun a j => a = D + 1 ∨ (a = D ∧ j = 10)) M1 M3 → WYrep M3 D c k → m_i M3 D 10 = nI (k + 1) → Ev l G d mDa_goThrough 115 [.ref D, .int (nI k), .ref C, u3] [] M3 bc bs Φ := fun M3 hF3 hW3 w10 => by
    have hI3 := hI1.fr (hF3.fr (Q := fun a => a = D + 1 ∨ a = D) (fun a j q => q.imp id And.left)) (by intro a ha; omega)
    have hD3 : DS0 M3 c D I A P s := hD1.fr hF3 hI3 (fun a j q => by omega)
    have hC3 : CAin M3 C L mm := hC1.fr hF3 (by omega) (by omega) (by omega) (fun j => by omega)
    exact gt_115 M c hc D I A P hO hd s hS k hk hlen mm m2 L hL b3 C hCC M3 u3 hD3 hC3 (by rw [hF3.1 _ _ (by omega)]; exact w4) (by rw [hF3.1 _ _ (by omega)]; exact w6) (by rw [hF3.1 _ _ (by omega)]; exact wu) (by rw [hF3.1 _ _ (by omega)]; exact w14) w10 hW3 (hMF1.tr (hF3.mono (fun a j q => by unfold PG; omega))) hN
  have kr1 : m_r M1 (m_r M1 D 9) (nI k).toNatClampNeg = C := by rw [d9, nI_clamp (by omega)]; exact kr
  have s9 : m_sh M1 (m_r M1 D 9) = (30, 8) := by rw [d9]; exact s2
  have hF2 : FrS (fun a j => a = D + 1 ∨ (a = D ∧ j = 10)) M1 (m_si M1 D 10 (nI (k + 1))) := FrS.si (Or.inr ⟨rfl, rfl⟩) _
  have hb2 : ∀ p, p < c_n c → m_i (m_si M1 D 10 (nI (k + 1))) (D + 1) p = nI (if c_tu c = some p ∧ c_tc c < nI k then c_tw c else c_wy c p) := fun p hp => by rw [m_i_si, if_neg (by omega)]; exact hWb p hp
  have tu6' : m_i (m_si M1 D 10 (nI (k + 1))) D 6 = oN (c_tu c) := by rw [m_i_si, if_neg (by omega)]; exact tu6
  refine bDa_goThrough_66 M1 D _ u2 u3 _ ⟨fun q => absurd q (by decide), fun _ => ⟨hD1.1.1.1, by rw [s9], by rw [s9]; exact vp_in_nI (by omega) (by omega), ?_⟩⟩
  rw [c10, nI_1, kr1, tu6']
  refine ⟨fun q => h115 _ hF2 (fun p hp => ?_) (by rw [m_i_si, if_pos ⟨rfl, rfl⟩]), fun q => ?_⟩
  · rw [hb2 p hp]
    unfold wyAt
    cases ht : c_tu c with
    | none => rw [if_neg (by simp), if_neg (by simp)]
    | some p' =>
      rw [ht] at q
      have := (hc.2.2.2.2.2.2.2.2.1 p' ht).1
      exact absurd q (nI_neg (by omega))
  · cases ht : c_tu c with
    | none => rw [ht] at q; exact absurd rfl q
    | some p' =>
      obtain ⟨v1, v2, v3⟩ := hc.2.2.2.2.2.2.2.2.1 p' ht
      obtain ⟨u7, u8⟩ := tu7 p' ht
      have u7' : m_i (m_si M1 D 10 (nI (k + 1))) D 7 = c_tc c := by rw [m_i_si, if_neg (by omega)]; exact u7
      have u8' : m_i (m_si M1 D 10 (nI (k + 1))) D 8 = nI (c_tw c) := by rw [m_i_si, if_neg (by omega)]; exact u8
      have d3' : m_r M1 D 2 = D + 1 := d3
      rw [u7', u8', d3']
      refine ⟨fun q2 => h115 _ hF2 (fun p hp => ?_) (by rw [m_i_si, if_pos ⟨rfl, rfl⟩]), fun q2 => ⟨by rw [s1], by rw [s1]; exact vp_in_nI (by omega) (by omega), h115 _ (hF2.tr (FrS.si (Or.inl rfl) _)) (fun p hp => ?_) (by rw [m_i_si, if_neg (by omega), m_i_si, if_pos ⟨rfl, rfl⟩])⟩⟩
      · rw [hb2 p hp]
        unfold wyAt
        have : (c_tc c < nI k) ↔ (c_tc c ≤ nI k) := by
          rw [Int32.lt_iff_toInt_lt, Int32.le_iff_toInt_le]
          have : (nI k).toInt ≠ (c_tc c).toInt := fun z => q2 (Int32.toInt_inj.mp z)
          omega
        simp only [this]
      · show m_i (m_si _ (D + 1) (nI p').toNatClampNeg _) _ _ = _
        rw [nI_clamp (by omega), m_i_si]
        unfold wyAt
        rw [ht]
        by_cases z : p = p'
        · rw [if_pos ⟨rfl, z⟩, if_pos ⟨by rw [z], by rw [q2]; exact Int32.le_refl _⟩]
        · rw [if_neg (fun w => z w.2), hb2 p hp, if_neg (fun w => z (by have := w.1; rw [ht] at this; cases this; rfl)), if_neg (fun w => z (by have := w.1; cases this; rfl))]
theorem ct_goThrough (M : Mm) (c : Cf) (hc : cfOK c) (D I A P : Nat) (hDI : DIN M c D I A P) (hW : ∀ p, p < c_n c → m_i M (D + 1) p = nI (c_wy c p)) (hd : 5 < d)
    (h : ∀ M', FrS (PG D I A) M M' → DSt M' c D I A P (dayS c 8 g0) → BLrep M' D (balL (g_ps (dayS c 8 g0)) (g_fr (dayS c 8 g0)) (c_nu c 7)) → SOK c (dayS c 8 g0) → Φ (.inl none) M') : Ct l G d mDa_goThrough bc bs [.ref D] M Φ := by
  have n8 := hc.1
  obtain ⟨hD, hI, ⟨o1, o2, o3⟩, -⟩ := id hDI
  generalize hSS : dayS c 8 g0 = S at h
  have hfin : ∀ s M' (x : Int32) (u2 u3 : Value), SOK c s → DSt M' c D I A P s → FrS (PG D I A) M M' → s = S → Ev l G d mDa_goThrough 211 [.ref D, .int x, u2, u3] [] M' bc bs Φ := fun s M' x u2 u3 hS hDS hF e => by
    subst e
    exact gt_211 M c hc D I A P ⟨o1, o2, o3⟩ hd s M' x u2 u3 hS hDS hF (fun M2 a b e => h M2 a b e hS)
  have loop : ∀ j k s M' (u2 u3 : Value), k + j = 8 → (g_cs s).length = k → SOK c s → DSt M' c D I A P s → WYb M' D c k → FrS (PG D I A) M M' → dayS c j s = S → Ev l G d mDa_goThrough 43 [.ref D, .int (nI k), u2, u3] [] M' bc bs Φ := by
    intro j
    induction j with
    | zero =>
      intro k s M' u2 u3 hk hlen hS hDS hWb hF e
      have : k = 8 := by omega
      subst this
      exact bDa_goThrough_43 M' D _ u2 u3 ⟨fun _ => hfin s M' _ u2 u3 hS hDS hF e, fun q => absurd (nI_le (a := 8) (b := 8) (Nat.le_refl _) (by omega)) q⟩
    | succ j ih =>
      intro k s M' u2 u3 hk hlen hS hDS hWb hF e
      obtain ⟨hD0, q10, q14, q15, q5⟩ := id hDS
      obtain ⟨hDI', hP', hEo, h13, hcs⟩ := id hD0
      obtain ⟨⟨d0, d1, d2, d3, d9, d11, d12, s1, s2, s3, pb, dk⟩, hI', -, pl3, pl4, tu6, tu7⟩ := id hDI'
      obtain ⟨kr, kc⟩ := dk k (by omega)
      refine bDa_goThrough_43 M' D _ u2 u3 ⟨fun q => absurd q (nI_not_le (b := 8) (by omega) (by omega)), fun _ => ⟨d0, fun q => hfin s M' _ u2 u3 hS hDS hF ?_, fun q => ⟨by rw [d9, s2], by rw [d9, s2]; exact vp_in_nI (by omega) (by omega), CallVC.cps0 (by omega) ?_⟩⟩⟩
      · have hel : g_el s = true := by
          cases he : g_el s with
          | true => rfl
          | false => rw [he] at q14; exact absurd q14 q
        rw [← e]
        exact (dayS_el c j hel).symm
      · have hel : g_el s = false := by
          cases he : g_el s with
          | false => rfl
          | true => rw [he, q] at q14; exact absurd q14 (by decide)
        rw [d9, nI_clamp (by omega), kr]
        generalize hCC : D + 11 + 2 * k = C at *
        refine ct_openCall M' c hc s hS D I A P hDI' q15 h13 C kc (by omega) (by omega) (fun M1 hm hF1 => ?_) (fun mm M1 hm g1 => ?_)
        · refine bDa_goThrough_66 M1 D _ u2 u3 _ ⟨fun _ => ?_, fun q => absurd rfl q⟩
          have e' : s = S := by rw [← e]; exact (dayS_none c j hel hm).symm
          have hF1' : FrS (fun a _ => a = C ∨ a = C + 1) M' M1 := FrS.of hF1 (fun a j q => q)
          refine hfin s M1 _ u2 u3 hS ⟨hD0.fr hF1' (hI'.fr hF1 (by intro a ha; omega)) (fun a j q => by omega), ?_, ?_, ?_, ?_⟩ (hF.tr (hF1'.mono (fun a j q => by unfold PG; omega))) e'
          · rw [hF1.1 _ (by omega)]; exact q10
          · rw [hF1.1 _ (by omega)]; exact q14
          · rw [hF1.1 _ (by omega)]; exact q15
          · rw [hF1.1 _ (by omega)]; exact q5
        · have e' := e
          rw [dayS_some c j hel hm] at e'
          obtain ⟨m1, m2, hL⟩ := hS.min hc hm
          obtain ⟨b1, b2, b3⟩ := hS.th hc mm
          have hcal := hS.cal hc hel hm
          have hMF1 : FrS (PG D I A) M M1 := hF.tr (FrS.of g1.1 (fun a j q => by unfold PG; omega))
          obtain ⟨gF, g2, g3, g4, g5, g6, g7, g8, g9⟩ := g1
          have hF1 : FrS (fun a _ => a = C ∨ a = C + 1) M' M1 := FrS.of gF (fun a j q => q)
          have hI1 := hI'.fr gF (by intro a ha; omega)
          have hD1 : DS0 M1 c D I A P s := hD0.fr hF1 hI1 (fun a j q => by omega)
          exact gt_66 M c hc D I A P ⟨o1, o2, o3⟩ hd s hS k (by omega) hlen mm m2 _ hL b3 C hCC M1 u2 u3 hD1 ⟨kc.of gF.2.1 gF.2.2.2.1, g2, g3, g4, g5⟩ g6 g8 (by rw [gF.1 _ (by omega)]; exact q5) (by rw [gF.1 _ (by omega), q14, hel]; rfl) (by rw [gF.1 _ (by omega), q10, hlen]) (fun p hp => by rw [gF.1 _ (by omega)]; exact hWb p hp) hMF1 (fun M8 v2 v3 a1 a2 a3 a4 => ih (k + 1) _ M8 v2 v3 (by omega) a1 hcal a2 a3 a4 e')
  obtain ⟨d0, d1, d2, d3, d9, d11, d12, s1, s2, s3, pb, dk⟩ := id hD
  refine Ct.of rfl (Nat.le_of_ble_eq_true rfl) ?_
  refine bDa_goThrough_0 M D ⟨d0, CallVC.cps0 (by omega) ?_⟩
  rw [d11]
  refine ct_fill _ (D + 3) _ 8 s3 (by decide) ?_
  refine bDa_goThrough_13 _ D _ _ _ ⟨d0, by show (m_sh M (m_r M D 12)).1 = 5; rw [d12]; exact pb.1, ?_⟩
  refine bDa_goThrough_26 _ D _ _ _ ⟨d0, ?_⟩
  refine bDa_goThrough_36 _ D _ _ _ ⟨d0, ?_⟩
  rw [show m_r (m_row (m_si M D 10 0) (D + 3) (fun j => if j < 8 then -1 else m_i (m_si M D 10 0) (D + 3) j)) D 12 = D + 4 from d12]
  have hF0 : FrS (fun a j => (a = D ∧ (j = 5 ∨ j = 10 ∨ j = 13 ∨ j = 14 ∨ j = 15)) ∨ a = D + 3 ∨ (a = D + 4 ∧ j = 6)) M (m_si (m_si (m_si (m_si (m_si (m_row (m_si M D 10 0) (D + 3) (fun j => if j < 8 then -1 else m_i (m_si M D 10 0) (D + 3) j)) (D + 4) 6 0) D 13 0) D 14 0) D 15 0) D 5 0) :=
    ((((((FrS.si (Or.inl ⟨rfl, by omega⟩) _).tr (FrS.row (fun j => Or.inr (Or.inl rfl)) _)).tr (FrS.si (Or.inr (Or.inr ⟨rfl, rfl⟩)) _)).tr (FrS.si (Or.inl ⟨rfl, by omega⟩) _)).tr (FrS.si (Or.inl ⟨rfl, by omega⟩) _)).tr (FrS.si (Or.inl ⟨rfl, by omega⟩) _)).tr (FrS.si (Or.inl ⟨rfl, by omega⟩) _)
  have hI0 := hI.fr (hF0.fr (Q := fun a => a = D ∨ a = D + 3 ∨ a = D + 4) (fun a j q => by omega)) (by intro a ha; omega)
  refine loop 8 0 g0 _ _ _ rfl rfl (SOK.zero c) ⟨⟨hDI.fr hF0 hI0 (by omega) (by omega) (by omega) (by omega) (by omega), ⟨?_, fun i hi => absurd hi (Nat.not_lt_zero i)⟩, fun p hp => ?_, ?_, fun k hk => absurd hk (Nat.not_lt_zero k)⟩, ?_, ?_, ?_, ?_⟩ (fun p hp => ?_) (hF0.mono (fun a j q => by unfold PG; omega)) hSS
  · rw [m_i_si, if_neg (by omega), m_i_si, if_neg (by omega), m_i_si, if_neg (by omega), m_i_si, if_neg (by omega), m_i_si, if_pos ⟨rfl, rfl⟩]; rfl
  · rw [m_i_si, if_neg (by omega), m_i_si, if_neg (by omega), m_i_si, if_neg (by omega), m_i_si, if_neg (by omega), m_i_si, if_neg (by omega), m_i_rowS, if_pos hp]; rfl
  · rw [m_i_si, if_neg (by omega), m_i_si, if_neg (by omega), m_i_si, if_neg (by omega), m_i_si, if_pos ⟨rfl, rfl⟩]; rfl
  · rw [m_i_si, if_neg (by omega), m_i_si, if_neg (by omega), m_i_si, if_neg (by omega), m_i_si, if_neg (by omega), m_i_si, if_neg (by omega), m_i_row, if_neg (by omega), m_i_si, if_pos ⟨rfl, rfl⟩]; rfl
  · rw [m_i_si, if_neg (by omega), m_i_si, if_neg (by omega), m_i_si, if_pos ⟨rfl, rfl⟩]; rfl
  · rw [m_i_si, if_neg (by omega), m_i_si, if_pos ⟨rfl, rfl⟩]; rfl
  · rw [m_i_si, if_pos ⟨rfl, rfl⟩]; rfl
  · rw [hF0.1 _ _ (by omega), hW p hp]
    by_cases z : c_tu c = some p ∧ c_tc c < nI 0
    · have := (hc.2.2.2.2.2.2.2.2.1 p z.1).2.1
      exact absurd z.2 this
    · rw [if_neg z]
end SDG
