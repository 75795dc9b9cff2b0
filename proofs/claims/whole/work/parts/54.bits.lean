/-! ===== Integer.bitCount of what is below 1024; the rest of Day ===== -/
def bitE (x0 : Int32) : Int32 := ((((((((x0 - (((x0.toUInt32 >>> ((1 : Int32).toUInt32 &&& Int32.toUInt32 31)).toInt32) &&& 1431655765)) &&& 858993459) + ((((x0 - (((x0.toUInt32 >>> ((1 : Int32).toUInt32 &&& Int32.toUInt32 31)).toInt32) &&& 1431655765)).toUInt32 >>> ((2 : Int32).toUInt32 &&& Int32.toUInt32 31)).toInt32) &&& 858993459)) + (((((x0 - (((x0.toUInt32 >>> ((1 : Int32).toUInt32 &&& Int32.toUInt32 31)).toInt32) &&& 1431655765)) &&& 858993459) + ((((x0 - (((x0.toUInt32 >>> ((1 : Int32).toUInt32 &&& Int32.toUInt32 31)).toInt32) &&& 1431655765)).toUInt32 >>> ((2 : Int32).toUInt32 &&& Int32.toUInt32 31)).toInt32) &&& 858993459)).toUInt32 >>> ((4 : Int32).toUInt32 &&& Int32.toUInt32 31)).toInt32)) &&& 252645135) + (((((((x0 - (((x0.toUInt32 >>> ((1 : Int32).toUInt32 &&& Int32.toUInt32 31)).toInt32) &&& 1431655765)) &&& 858993459) + ((((x0 - (((x0.toUInt32 >>> ((1 : Int32).toUInt32 &&& Int32.toUInt32 31)).toInt32) &&& 1431655765)).toUInt32 >>> ((2 : Int32).toUInt32 &&& Int32.toUInt32 31)).toInt32) &&& 858993459)) + (((((x0 - (((x0.toUInt32 >>> ((1 : Int32).toUInt32 &&& Int32.toUInt32 31)).toInt32) &&& 1431655765)) &&& 858993459) + ((((x0 - (((x0.toUInt32 >>> ((1 : Int32).toUInt32 &&& Int32.toUInt32 31)).toInt32) &&& 1431655765)).toUInt32 >>> ((2 : Int32).toUInt32 &&& Int32.toUInt32 31)).toInt32) &&& 858993459)).toUInt32 >>> ((4 : Int32).toUInt32 &&& Int32.toUInt32 31)).toInt32)) &&& 252645135).toUInt32 >>> ((8 : Int32).toUInt32 &&& Int32.toUInt32 31)).toInt32)) + ((((((((x0 - (((x0.toUInt32 >>> ((1 : Int32).toUInt32 &&& Int32.toUInt32 31)).toInt32) &&& 1431655765)) &&& 858993459) + ((((x0 - (((x0.toUInt32 >>> ((1 : Int32).toUInt32 &&& Int32.toUInt32 31)).toInt32) &&& 1431655765)).toUInt32 >>> ((2 : Int32).toUInt32 &&& Int32.toUInt32 31)).toInt32) &&& 858993459)) + (((((x0 - (((x0.toUInt32 >>> ((1 : Int32).toUInt32 &&& Int32.toUInt32 31)).toInt32) &&& 1431655765)) &&& 858993459) + ((((x0 - (((x0.toUInt32 >>> ((1 : Int32).toUInt32 &&& Int32.toUInt32 31)).toInt32) &&& 1431655765)).toUInt32 >>> ((2 : Int32).toUInt32 &&& Int32.toUInt32 31)).toInt32) &&& 858993459)).toUInt32 >>> ((4 : Int32).toUInt32 &&& Int32.toUInt32 31)).toInt32)) &&& 252645135) + (((((((x0 - (((x0.toUInt32 >>> ((1 : Int32).toUInt32 &&& Int32.toUInt32 31)).toInt32) &&& 1431655765)) &&& 858993459) + ((((x0 - (((x0.toUInt32 >>> ((1 : Int32).toUInt32 &&& Int32.toUInt32 31)).toInt32) &&& 1431655765)).toUInt32 >>> ((2 : Int32).toUInt32 &&& Int32.toUInt32 31)).toInt32) &&& 858993459)) + (((((x0 - (((x0.toUInt32 >>> ((1 : Int32).toUInt32 &&& Int32.toUInt32 31)).toInt32) &&& 1431655765)) &&& 858993459) + ((((x0 - (((x0.toUInt32 >>> ((1 : Int32).toUInt32 &&& Int32.toUInt32 31)).toInt32) &&& 1431655765)).toUInt32 >>> ((2 : Int32).toUInt32 &&& Int32.toUInt32 31)).toInt32) &&& 858993459)).toUInt32 >>> ((4 : Int32).toUInt32 &&& Int32.toUInt32 31)).toInt32)) &&& 252645135).toUInt32 >>> ((8 : Int32).toUInt32 &&& Int32.toUInt32 31)).toInt32)).toUInt32 >>> ((16 : Int32).toUInt32 &&& Int32.toUInt32 31)).toInt32)) &&& 63)
def onesN : Nat → Nat → Nat
  | 0, _ => 0
  | i + 1, s => onesN i s + (if s.testBit i = true then 1 else 0)
theorem bitE_eq {s : Nat} (h : s < 1024) : bitE (nI s) = nI (onesN 10 s) := by
  have h1 : ∀ s, s < 1024 → bitE (nI s) = nI (onesN 10 s) := by decide +kernel
  exact h1 s h
section SBC
variable {l : Launch} {G : Gx} {d : Nat} {bc bs : Nat} {Φ : OutV → Mm → Prop}
theorem ct_bitCount (M : Mm) (s : Nat) (hs : s < 1024) (h : Φ (.inl (some (.int (nI (onesN 10 s))))) M) : Ct l G d mjI_bitCount bc bs [.int (nI s)] M Φ := by
  refine Ct.of rfl (Nat.le_of_ble_eq_true rfl) ?_
  refine bjI_bitCount_0 M (nI s) ?_
  have e := bitE_eq hs
  unfold bitE at e
  rw [e]
  exact h
/-- All by their WAYS. -/
theorem ct_prepare (M : Mm) (D I P n : Nat) (f : Nat → Nat → Int32) (by_ : Nat → Nat) (I0 P0 : Nat) (hD : DAok M D I0 P0) (hE : PEok M P) (hR : PErep M P n f by_) (hPD : P + 2 < D) (hd : 0 < d)
    (h : ∀ M', FrX (fun a j => (a = D ∧ (j = 3 ∨ j = 6 ∨ j = 7)) ∨ a = D + 1) (fun a j => a = D ∧ (j = 0 ∨ j = 1)) M M' → DAok M' D I P → (∀ p, p < n → m_i M' (D + 1) p = f p 5) → m_i M' D 3 = -1 → m_i M' D 6 = -1 → m_i M' D 7 = -1 → Φ (.inl none) M') : Ct l G d mDa_prepare bc bs [.ref D, .ref P, .ref I] M Φ := by
  have hn8 := hR.2.1
  refine Ct.of rfl (Nat.le_of_ble_eq_true rfl) ?_
  refine bDa_prepare_0 M D P I ⟨hD.1, ?_⟩
  have hF1 : FrX (fun a j => (a = D ∧ (j = 3 ∨ j = 6 ∨ j = 7)) ∨ a = D + 1) (fun a j => a = D ∧ (j = 0 ∨ j = 1)) M (m_sr (m_sr M D 0 P) D 1 I) := (FrX.sr ⟨rfl, Or.inl rfl⟩ _).tr (FrX.sr ⟨rfl, Or.inr rfl⟩ _)
  have r0 : m_r (m_sr (m_sr M D 0 P) D 1 I) D 0 = P := by rw [m_r_sr, if_neg (by omega), m_r_sr, if_pos ⟨rfl, rfl⟩]
  have r1 : m_r (m_sr (m_sr M D 0 P) D 1 I) D 1 = I := by rw [m_r_sr, if_pos ⟨rfl, rfl⟩]
  have hR1 : PErep (m_sr (m_sr M D 0 P) D 1 I) P n f by_ := hR.fx (fun _ _ _ _ => rfl)
  generalize m_sr (m_sr M D 0 P) D 1 I = M1 at *
  have hE1 : PEok M1 P := hE.fx hF1 (fun j => by omega)
  have hD1 : DAok M1 D I P := by
    obtain ⟨d0, d1, d2, d3, d9, d11, d12, s1, s2, s3, pb, dk⟩ := hD
    have hs := hF1.2.2.2.1
    have hr : ∀ a j, ¬ (a = D ∧ (j = 0 ∨ j = 1)) → m_r M1 a j = m_r M a j := hF1.2.1
    refine ⟨by rw [hs]; exact d0, r0, r1, by rw [hr _ _ (by omega)]; exact d3, by rw [hr _ _ (by omega)]; exact d9, by rw [hr _ _ (by omega)]; exact d11, by rw [hr _ _ (by omega)]; exact d12, by rw [hs]; exact s1, by rw [hs]; exact s2, by rw [hs]; exact s3, ?_, fun k hk => ⟨by rw [hr _ _ (by omega)]; exact (dk k hk).1, ?_⟩⟩
    · obtain ⟨b0, b1, b2, b3, b4, b5, b6, t1, t2, t3, t4, t5, t6⟩ := pb
      exact ⟨by rw [hs]; exact b0, by rw [hr _ _ (by omega)]; exact b1, by rw [hr _ _ (by omega)]; exact b2, by rw [hr _ _ (by omega)]; exact b3, by rw [hr _ _ (by omega)]; exact b4, by rw [hr _ _ (by omega)]; exact b5, by rw [hr _ _ (by omega)]; exact b6, by rw [hs]; exact t1, by rw [hs]; exact t2, by rw [hs]; exact t3, by rw [hs]; exact t4, by rw [hs]; exact t5, by rw [hs]; exact t6⟩
    · obtain ⟨c0, c1, c2⟩ := (dk k hk).2
      exact ⟨by rw [hs]; exact c0, by rw [hr _ _ (by omega)]; exact c1, by rw [hs]; exact c2⟩
  refine bDa_prepare_10 M1 D P I _ ?_
  have loop : ∀ e i M', i + e = n → FrS (fun a _ => a = D + 1) M1 M' → (∀ p, p < i → m_i M' (D + 1) p = f p 5) → Ev l G d mDa_prepare 12 [.ref D, .ref P, .ref I, .int (nI i)] [] M' bc bs Φ := by
    intro e
    induction e with
    | zero =>
      intro i M' hi hF hw
      have : i = n := by omega
      subst this
      have hR' : PErep M' P i f by_ := hR1.fx (fun a _ _ j => hF.1 _ _ (by omega))
      have hE' := hE1.of hF.2.1 hF.2.2.2.1
      have hD' := hD1.of hF.2.1 hF.2.2.2.1
      refine bDa_prepare_12 M' D P I _ ⟨hE'.1, fun _ => ⟨hD'.1, ?_⟩, fun q => absurd (by rw [hR'.1]; exact nI_le (Nat.le_refl _) (by omega)) q⟩
      refine bDa_prepare_48 _ D P I _ ⟨hD'.1, ?_⟩
      refine h _ ((hF1.tr (FrX.of (hF.mono (fun a j q => Or.inr q)))).tr (FrX.of (((FrS.si (Or.inl ⟨rfl, Or.inl rfl⟩) _).tr (FrS.si (Or.inl ⟨rfl, Or.inr (Or.inl rfl)⟩) _)).tr (FrS.si (Or.inl ⟨rfl, Or.inr (Or.inr rfl)⟩) _)))) (hD'.of (fun _ _ => rfl) (fun _ => rfl)) (fun p hp => ?_) ?_ ?_ ?_
      · rw [m_i_si, if_neg (by omega), m_i_si, if_neg (by omega), m_i_si, if_neg (by omega)]
        exact hw p hp
      · rw [m_i_si, if_neg (by omega), m_i_si, if_neg (by omega), m_i_si, if_pos ⟨rfl, rfl⟩]
      · rw [m_i_si, if_neg (by omega), m_i_si, if_pos ⟨rfl, rfl⟩]
      · rw [m_i_si, if_pos ⟨rfl, rfl⟩]
    | succ e ih =>
      intro i M' hi hF hw
      have hR' : PErep M' P n f by_ := hR1.fx (fun a _ _ j => hF.1 _ _ (by omega))
      have hE' := hE1.of hF.2.1 hF.2.2.2.1
      have hD' := hD1.of hF.2.1 hF.2.2.2.1
      refine bDa_prepare_12 M' D P I _ ⟨hE'.1, fun q => absurd q (by rw [hR'.1]; exact nI_not_le (by omega) (by omega)), fun _ => ⟨hD'.1, CallVC.cps0 hd ?_⟩⟩
      refine ct_fact M' P i 5 hE' (by omega) (by omega) ?_
      rw [hR'.2.2.1 i 5 (by omega) (by omega), hD'.2.2.2.1]
      have s1 := hD'.2.2.2.2.2.2.2.1
      refine bDa_prepare_31 M' D P I _ (D + 1) _ _ ⟨by rw [s1], by rw [s1]; exact vp_in_nI (by omega) (by omega), ?_⟩
      rw [nI_1, nI_clamp (by omega)]
      refine ih (i + 1) _ (by omega) (hF.tr (FrS.si (P := fun a _ => a = D + 1) rfl _)) (fun p hp => ?_)
      rw [m_i_si]
      by_cases q : p = i
      · rw [if_pos ⟨rfl, q⟩, q]
      · rw [if_neg (fun z => q z.2)]
        exact hw p (by omega)
  exact loop n 0 M1 (by omega) (FrS.rf _ _) (fun p hp => absurd hp (Nat.not_lt_zero p))
/-- all OFFERS, CALLS unasked, the last end: of the first i CALLS -/
def offN (cs : List CR) : Nat → Int32
  | 0 => 0
  | i + 1 => offN cs i + nI (cs.getD i cr0).2.2.2.1
def unaN (cs : List CR) : Nat → Int32
  | 0 => 0
  | i + 1 => unaN cs i + (if (cs.getD i cr0).2.2.2.2.2.2 = true then 1 else 0)
def lastN (cs : List CR) : Nat → Int32
  | 0 => 0
  | i + 1 => if lastN cs i < (cs.getD i cr0).2.2.2.2.2.1 then (cs.getD i cr0).2.2.2.2.2.1 else lastN cs i
def DAcs (M : Mm) (D : Nat) (cs : List CR) : Prop := (m_sh M D).1 = 1 ∧ m_r M D 9 = D + 2 ∧ m_sh M (D + 2) = (30, 8) ∧ cs.length ≤ 8 ∧ m_i M D 10 = nI cs.length ∧ ∀ k, k < cs.length → m_r M (D + 2) k = D + 11 + 2 * k ∧ CArep M (D + 11 + 2 * k) (cs.getD k cr0)
theorem DSt.cs {M : Mm} {c : Cf} {D I A P : Nat} {s : Sg} (h : DSt M c D I A P s) (hS : SOK c s) : DAcs M D (g_cs s) := by
  obtain ⟨⟨⟨⟨d0, d1, d2, d3, d9, d11, d12, s1, s2, s3, pb, dk⟩, -⟩, -, -, -, hcs⟩, q10, -⟩ := h
  have h8 := hS.2.2.2.2.2.2.2.2.2.2.1
  exact ⟨d0, d9, s2, h8, q10, fun k hk => ⟨(dk k (by omega)).1, hcs k hk⟩⟩
theorem ct_allOffers (M : Mm) (D : Nat) (cs : List CR) (hD : DAcs M D cs) (h : Φ (.inl (some (.int (offN cs cs.length)))) M) : Ct l G d mDa_allOffers bc bs [.ref D] M Φ := by
  obtain ⟨d0, d9, s2, h8, q10, hk⟩ := hD
  refine Ct.of rfl (Nat.le_of_ble_eq_true rfl) ?_
  refine bDa_allOffers_0 M D ?_
  have loop : ∀ e i, i + e = cs.length → Ev l G d mDa_allOffers 4 [.ref D, .int (offN cs i), .int (nI i)] [] M bc bs Φ := by
    intro e
    induction e with
    | zero =>
      intro i hi
      have : i = cs.length := by omega
      subst this
      exact bDa_allOffers_4 M D _ _ ⟨d0, fun _ => h, fun q => absurd (by rw [q10]; exact nI_le (Nat.le_refl _) (by omega)) q⟩
    | succ e ih =>
      intro i hi
      obtain ⟨k1, k2⟩ := hk i (by omega)
      have er : m_r M (m_r M D 9) (nI i).toNatClampNeg = D + 11 + 2 * i := by rw [d9, nI_clamp (by omega)]; exact k1
      refine bDa_allOffers_4 M D _ _ ⟨d0, fun q => absurd q (by rw [q10]; exact nI_not_le (by omega) (by omega)), fun _ => ⟨by rw [d9, s2], by rw [d9, s2]; exact vp_in_nI (by omega) (by omega), by rw [er]; exact k2.1.1.1, ?_⟩⟩
      rw [er, k2.2.2.1, nI_1]
      exact ih (i + 1) (by omega)
  exact loop cs.length 0 (by omega)
theorem ct_unaskedCalls (M : Mm) (D : Nat) (cs : List CR) (hD : DAcs M D cs) (h : Φ (.inl (some (.int (unaN cs cs.length)))) M) : Ct l G d mDa_unaskedCalls bc bs [.ref D] M Φ := by
  obtain ⟨d0, d9, s2, h8, q10, hk⟩ := hD
  refine Ct.of rfl (Nat.le_of_ble_eq_true rfl) ?_
  refine bDa_unaskedCalls_0 M D ?_
  have loop : ∀ e i, i + e = cs.length → Ev l G d mDa_unaskedCalls 4 [.ref D, .int (unaN cs i), .int (nI i)] [] M bc bs Φ := by
    intro e
    induction e with
    | zero =>
      intro i hi
      have : i = cs.length := by omega
      subst this
      exact bDa_unaskedCalls_4 M D _ _ ⟨d0, fun _ => h, fun q => absurd (by rw [q10]; exact nI_le (Nat.le_refl _) (by omega)) q⟩
    | succ e ih =>
      intro i hi
      obtain ⟨k1, k2⟩ := hk i (by omega)
      have er : m_r M (m_r M D 9) (nI i).toNatClampNeg = D + 11 + 2 * i := by rw [d9, nI_clamp (by omega)]; exact k1
      have ih' := ih (i + 1) (by omega)
      unfold unaN at ih'
      refine bDa_unaskedCalls_4 M D _ _ ⟨d0, fun q => absurd q (by rw [q10]; exact nI_not_le (by omega) (by omega)), fun _ => ⟨by rw [d9, s2], by rw [d9, s2]; exact vp_in_nI (by omega) (by omega), by rw [er]; exact k2.1.1.1, ?_⟩⟩
      rw [er, k2.2.2.2.2.2, nI_1]
      cases hu : (cs.getD i cr0).2.2.2.2.2.2 with
      | true =>
        rw [hu] at ih'
        exact ⟨fun q => absurd q (by decide), fun _ => ih'⟩
      | false =>
        rw [hu] at ih'
        exact ⟨fun _ => ih', fun q => absurd rfl q⟩
  exact loop cs.length 0 (by omega)
theorem ct_lastEnd (M : Mm) (D : Nat) (cs : List CR) (hD : DAcs M D cs) (hd : 1 ≤ d) (h : Φ (.inl (some (.int (lastN cs cs.length)))) M) : Ct l G d mDa_lastEnd bc bs [.ref D] M Φ := by
  obtain ⟨d0, d9, s2, h8, q10, hk⟩ := hD
  refine Ct.of rfl (Nat.le_of_ble_eq_true rfl) ?_
  refine bDa_lastEnd_0 M D ?_
  have loop : ∀ e i, i + e = cs.length → Ev l G d mDa_lastEnd 4 [.ref D, .int (lastN cs i), .int (nI i)] [] M bc bs Φ := by
    intro e
    induction e with
    | zero =>
      intro i hi
      have : i = cs.length := by omega
      subst this
      exact bDa_lastEnd_4 M D _ _ ⟨d0, fun _ => h, fun q => absurd (by rw [q10]; exact nI_le (Nat.le_refl _) (by omega)) q⟩
    | succ e ih =>
      intro i hi
      obtain ⟨k1, k2⟩ := hk i (by omega)
      have er : m_r M (m_r M D 9) (nI i).toNatClampNeg = D + 11 + 2 * i := by rw [d9, nI_clamp (by omega)]; exact k1
      refine bDa_lastEnd_4 M D _ _ ⟨d0, fun q => absurd q (by rw [q10]; exact nI_not_le (by omega) (by omega)), fun _ => ⟨by rw [d9, s2], by rw [d9, s2]; exact vp_in_nI (by omega) (by omega), by rw [er]; exact k2.1.1.1, hd, ?_⟩⟩
      rw [er, k2.2.2.2.2.1, nI_1]
      exact ih (i + 1) (by omega)
  exact loop cs.length 0 (by omega)
end SBC
