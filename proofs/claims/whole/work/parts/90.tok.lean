/-! ===== Tokens: words ===== -/
theorem txL_eq {tp : Nat → Nat} {p e : Nat} {x : List Int32} (hl : x.length = e - p) (h : ∀ k, k < e - p → x.getD k 0 = nI (tp (p + k))) : x = txL tp p e := by
  unfold txL
  refine List.ext_getElem (by rw [hl, List.length_map, List.length_range]) (fun k h1 h2 => ?_)
  have := h k (by omega)
  rw [List.getD_eq_getElem?_getD, List.getElem?_eq_getElem h1] at this
  rw [List.getElem_map, List.getElem_range]
  exact this
theorem txL_len (tp : Nat → Nat) (p e : Nat) : (txL tp p e).length = e - p := by
  unfold txL
  rw [List.length_map, List.length_range]
theorem txL_get {tp : Nat → Nat} {p e k : Nat} (h : k < e - p) : (txL tp p e).getD k 0 = nI (tp (p + k)) := by
  unfold txL
  rw [List.getD_eq_getElem?_getD, List.getElem?_map, List.getElem?_range h]
  rfl
theorem sb_l {b : Nat} (h : b < 128) : sb b = nI b := if_pos h
theorem isl_lt {b : Nat} (h : isl b = true) : 97 ≤ b ∧ b ≤ 122 := of_decide_eq_true h
theorem isd_lt {b : Nat} (h : isd b = true) : 48 ≤ b ∧ b ≤ 57 := of_decide_eq_true h
section TOK
variable {l : Launch} {G : Gx} {d : Nat} {bc bs : Nat} {Φ : OutV → Mm → Prop}
theorem wf_in (M : Mm) (tp : Nat → Nat) (p e i : Nat) (hi : i < 23) (hs : m_sh M 101 = (21, 500)) (he : e ≤ 500) (hb : ∀ i, p ≤ i → i < e → m_i M 101 i = sb (tp i) ∧ isl (tp i) = true) (hl : (wTx (i + 1)).length = e - p) (hd : 3 < d)
    (k1 : wTx (i + 1) = txL tp p e → Ev l G d mTo_wordFor 66 [.ref 101, .int (nI p), .int (nI e), .int (nI i), .ref (i + 1 + 30), .int (nI (e - p))] [] M bc bs Φ)
    (k2 : ¬ wTx (i + 1) = txL tp p e → ∀ s, s < e - p → Ev l G d mTo_wordFor 66 [.ref 101, .int (nI p), .int (nI e), .int (nI i), .ref (i + 1 + 30), .int (nI s)] [] M bc bs Φ) :
    ∀ c s, s + c = e - p → (∀ k, k < s → (wTx (i + 1)).getD k 0 = nI (tp (p + k))) → Ev l G d mTo_wordFor 34 [.ref 101, .int (nI p), .int (nI e), .int (nI i), .ref (i + 1 + 30), .int (nI s)] [] M bc bs Φ := by
  intro c
  induction c with
  | zero =>
    intro s hc hk
    refine bTo_wordFor_34 M _ _ _ _ _ _ ⟨⟨by omega, by omega⟩, CallVC.cps0 (by omega) (ct_jsLength M (i + 1) ⟨by omega, by omega⟩ (by omega) ?_)⟩
    refine bTo_wordFor_41 M _ _ _ _ _ _ _ _ ⟨fun _ => ?_, fun c => absurd (by rw [hl]; exact nI_le (by omega) (by omega)) c⟩
    rw [show s = e - p by omega]
    exact k1 (txL_eq hl (fun k h => hk k (by omega)))
  | succ c ih =>
    intro s hc hk
    refine bTo_wordFor_34 M _ _ _ _ _ _ ⟨⟨by omega, by omega⟩, CallVC.cps0 (by omega) (ct_jsLength M (i + 1) ⟨by omega, by omega⟩ (by omega) ?_)⟩
    refine bTo_wordFor_41 M _ _ _ _ _ _ _ _ ⟨fun c => absurd c (by rw [hl]; exact nI_not_le (by omega) (by omega)), fun _ => ⟨⟨by omega, by omega⟩, CallVC.cps0 (by omega) (ct_jsChar M (i + 1) s ⟨by omega, by omega⟩ (by omega) (by omega) ?_)⟩⟩
    have e1 : nI p + nI s = nI (p + s) := nI_add _ _
    obtain ⟨b1, b2⟩ := hb (p + s) (by omega) (by omega)
    have b3 := isl_lt b2
    rw [sb_l (by omega)] at b1
    refine bTo_wordFor_51 M _ _ _ _ _ _ _ ⟨by rw [hs], by rw [hs, e1]; exact vp_in_nI (by omega) (by omega), fun q => ?_, fun q => ?_⟩
    · rw [e1, nI_clamp (by omega), b1] at q
      refine k2 (fun z => q ?_) s (by omega)
      rw [z, txL_get (by omega)]
    · rw [e1, nI_clamp (by omega), b1] at q
      rw [nI_1]
      exact ih (s + 1) (by omega) (fun k h => by
        by_cases z : k = s
        · rw [z]; exact q
        · exact hk k (by omega))
theorem ct_wordFor (M : Mm) (tp : Nat → Nat) (p e : Nat) (hp : p < e) (he : e ≤ 500) (hs : m_sh M 101 = (21, 500)) (hb : ∀ i, p ≤ i → i < e → m_i M 101 i = sb (tp i) ∧ isl (tp i) = true) (hd : 3 < d)
    (h : Φ (.inl (some (.ref (twL (txL tp p e))))) M) : Ct l G d mTo_wordFor bc bs [.ref 101, .int (nI p), .int (nI e)] M Φ := by
  have hlp : ∀ k i u v, i + k = 23 → Φ (.inl (some (.ref (twF (txL tp p e) k i)))) M → Ev l G d mTo_wordFor 2 [.ref 101, .int (nI p), .int (nI e), .int (nI i), u, v] [] M bc bs Φ := by
    intro k
    induction k with
    | zero =>
      intro i u v hi h
      refine bTo_wordFor_2 M _ _ _ _ _ _ ⟨fun _ => h, fun c => absurd (by show nI 23 ≤ nI i; exact nI_le (by omega) (by omega)) c⟩
    | succ k ih =>
      intro i u v hi h
      have ec : (nI i).toNatClampNeg = i := nI_clamp (by omega)
      refine bTo_wordFor_2 M _ _ _ _ _ _ ⟨fun c => absurd c (by show ¬ nI 23 ≤ nI i; exact nI_not_le (by omega) (by omega)), fun _ => ?_⟩
      rw [ec]
      refine ⟨vp_in_nI (by omega) (by omega), ⟨by omega, by omega⟩, ⟨by omega, by omega⟩, CallVC.cps0 (by omega) (ct_jsLength M (i + 1) ⟨by omega, by omega⟩ (by omega) ?_)⟩
      have hx : nI e - nI p = nI (e - p) := pk_sub (by omega)
      have hl9 := wTx_len (i + 1) ⟨by omega, by omega⟩
      have nxt : ∀ s, s < e - p → ¬ wTx (i + 1) = txL tp p e → Ev l G d mTo_wordFor 66 [.ref 101, .int (nI p), .int (nI e), .int (nI i), .ref (i + 1 + 30), .int (nI s)] [] M bc bs Φ := by
        intro s hs2 hne
        refine bTo_wordFor_66 M _ _ _ _ _ _ ⟨fun _ => ?_, fun c => ?_⟩
        · rw [nI_1]
          refine ih (i + 1) _ _ (by omega) ?_
          unfold twF at h
          rw [if_neg hne] at h
          exact h
        · rw [hx, nI_eq (by omega) (by omega)] at c
          omega
      refine bTo_wordFor_28 M _ _ _ _ _ _ _ ⟨fun q => ?_, fun q => ?_⟩
      · rw [hx, nI_eq (by omega) (by omega)] at q
        exact nxt 0 (by omega) (fun z => q (by rw [z, txL_len]))
      · rw [hx, nI_eq (by omega) (by omega)] at q
        refine wf_in M tp p e i (by omega) hs he hb q hd (fun z => ?_) (fun z s hs2 => nxt s hs2 z) (e - p) 0 (by omega) (fun k hk => absurd hk (by omega))
        refine bTo_wordFor_66 M _ _ _ _ _ _ ⟨fun c => absurd hx.symm c, fun _ => ?_⟩
        rw [ec]
        refine ⟨vp_in_nI (by omega) (by omega), ?_⟩
        unfold twF at h
        rw [if_pos z] at h
        exact h
  refine Ct.of rfl (Nat.le_of_ble_eq_true rfl) (bTo_wordFor_0 M _ _ _ ?_)
  exact hlp 23 0 _ _ rfl h
theorem ct_isDigit (M : Mm) (b : Nat) (hb : b < 256) (h : Φ (.inl (some (.int (if isd b = true then 1 else 0)))) M) : Ct l G d mTo_isDigit bc bs [.int (sb b)] M Φ := by
  refine Ct.of rfl (Nat.le_of_ble_eq_true rfl) (bTo_isDigit_0 M _ ?_)
  unfold isd at h
  unfold sb
  by_cases h1 : b < 128
  · rw [if_pos h1]
    show (nI b < nI 48 → _) ∧ (¬ nI b < nI 48 → (nI 57 < nI b → _) ∧ (¬ nI 57 < nI b → _))
    rw [nI_ltI (by omega) (by omega), nI_ltI (by omega) (by omega)]
    refine ⟨fun q => ?_, fun q => ⟨fun q2 => ?_, fun q2 => ?_⟩⟩
    · rw [if_neg (by rw [decide_eq_true_eq]; omega)] at h; exact h
    · rw [if_neg (by rw [decide_eq_true_eq]; omega)] at h; exact h
    · rw [if_pos (by rw [decide_eq_true_eq]; omega)] at h; exact h
  · rw [if_neg h1]
    refine ⟨fun q => ?_, fun q => absurd ?_ q⟩
    · rw [if_neg (by rw [decide_eq_true_eq]; omega)] at h; exact h
    · have := pk_sneg (a := b) (b := 256) (by omega) hb
      exact Int32.lt_iff_toInt_lt.mpr (Int.lt_trans (Int32.lt_iff_toInt_lt.mp this) (by decide))
theorem ct_isLetter (M : Mm) (b : Nat) (hb : b < 256) (h : Φ (.inl (some (.int (if isl b = true then 1 else 0)))) M) : Ct l G d mTo_isLetter bc bs [.int (sb b)] M Φ := by
  refine Ct.of rfl (Nat.le_of_ble_eq_true rfl) (bTo_isLetter_0 M _ ?_)
  unfold isl at h
  unfold sb
  by_cases h1 : b < 128
  · rw [if_pos h1]
    show (nI b < nI 97 → _) ∧ (¬ nI b < nI 97 → (nI 122 < nI b → _) ∧ (¬ nI 122 < nI b → _))
    rw [nI_ltI (by omega) (by omega), nI_ltI (by omega) (by omega)]
    refine ⟨fun q => ?_, fun q => ⟨fun q2 => ?_, fun q2 => ?_⟩⟩
    · rw [if_neg (by rw [decide_eq_true_eq]; omega)] at h; exact h
    · rw [if_neg (by rw [decide_eq_true_eq]; omega)] at h; exact h
    · rw [if_pos (by rw [decide_eq_true_eq]; omega)] at h; exact h
  · rw [if_neg h1]
    refine ⟨fun q => ?_, fun q => absurd ?_ q⟩
    · rw [if_neg (by rw [decide_eq_true_eq]; omega)] at h; exact h
    · have := pk_sneg (a := b) (b := 256) (by omega) hb
      exact Int32.lt_iff_toInt_lt.mpr (Int.lt_trans (Int32.lt_iff_toInt_lt.mp this) (by decide))
end TOK
