/-! ===== the law's loop ===== -/
theorem EvT.mono {TB : List ExceptionTableEntry} {l : Launch} {G : Gx} {d : Nat} {y : MR} {pc : Nat} {ls st : List Value} {M : Mm} {bc bs bc' bs' : Nat} {Φ : OutV → Mm → Prop} (h1 : bc ≤ bc') (h2 : bs ≤ bs') (h : EvT TB l G d y pc ls st M bc bs Φ) : EvT TB l G d y pc ls st M bc' bs' Φ := by
  intro p e s m args below meth c mc ms ad0 n0 H locs cells slots ad lsA F X
  obtain ⟨x1, x2, x3⟩ := X
  exact h p e s m args below meth c mc ms ad0 n0 H locs cells slots ad lsA F ⟨by omega, by omega, x3⟩
theorem end_iff {L i : Nat} (hL : L ≤ 3072) (hi : i ≤ 4000) : nI L - 6 < nI i ↔ L < i + 6 := by
  rw [Int32.lt_iff_toInt_lt, show (6 : Int32) = nI 6 from rfl, pk_sub_toInt (by omega) (by omega), nI_toInt (by omega)]
  omega
section LLP
variable {l : Launch} {G : Gx} {d : Nat} {L : Nat} {xs : Nat → Int32}
def ΦL : OutV → Mm → Prop := fun o _ => o = .inl (some (.int 1))
theorem law_one (hSC : SC G L xs) (hl : l.stackTraces = false) (hL : L ≤ 3072) (hd : 40 < d) (m i : Nat) (hi : i + 5 < L) (M : Mm) (w : Wd) (len : Nat) (u5 u6 : Value) (hI : LI M w len) (K : ∀ M' w' len' u5 u6, LI M' w' len' → EvT [] l G d mLw_law_ 1843 [.ref 98, .ref 100, .ref 206, .ref 3483, .int (nI i), u5, u6] [] M' (4 * m) (24 * m + gr len') ΦL) : EvT [] l G d mLw_law_ 23 [.ref 98, .ref 100, .ref 206, .ref 3483, .int (nI i), u5, u6] [] M (4 + 4 * m) (24 + (24 * m + gr len)) ΦL := by
  have hw : ∀ pc : Nat, (∀ b0 : Nat, (WN M w len (xs (i + 1)) → 5 ^ w_n w * w_n w ≤ b0) → ∀ bs, (∀ M' w' len' u5 u6, WQ M w len (xs (i + 1)) len' → LI M' w' len' → EvT [] l G d mLw_law_ 1843 [.ref 98, .ref 100, .ref 206, .ref 3483, .int (nI i), u5, u6] [] M' (4 * m) bs ΦL) → EvT [] l G d mLw_law_ pc [.ref 98, .ref 100, .ref 206, .ref 3483, .int (nI i), u5, u6] [] M (4 + 4 * m) (24 + b0 + bs) ΦL) → EvT [] l G d mLw_law_ pc [.ref 98, .ref 100, .ref 206, .ref 3483, .int (nI i), u5, u6] [] M (4 + 4 * m) (24 + (24 * m + gr len)) ΦL := fun pc h => by
    rcases Classical.em (WN M w len (xs (i + 1))) with z | z
    · have hg := gr_S z.2.1 z.2.2.2
      have := h (5 ^ w_n w * w_n w) (fun _ => Nat.le_refl _) (24 * m + gr (5 ^ w_n w * w_n w)) (fun M' w' len' u5 u6 q hI' => by
        have e := q.1 z
        rw [← e]
        exact K M' w' len' u5 u6 hI')
      exact this.mono (by omega) (by omega)
    · have := h 0 (fun y => absurd y z) (24 * m + gr len) (fun M' w' len' u5 u6 q hI' => by
        have e := q.2 z
        rw [← e]
        exact K M' w' len' u5 u6 hI')
      exact this.mono (by omega) (by omega)
  have hg : ∀ M' w' u5 u6, LI M' w' len → EvT [] l G d mLw_law_ 1843 [.ref 98, .ref 100, .ref 206, .ref 3483, .int (nI i), u5, u6] [] M' (4 * m) (24 * m + gr len) ΦL := fun M' w' u5 u6 hI' => K M' w' len u5 u6 hI'
  refine bLw_law__23 hSC M 100 206 3483 (nI i) u5 u6 ⟨fun z => absurd ((end_iff hL (by omega)).mp z) (by omega), fun _ => ⟨vp_in_nI (by omega) (by omega), fun _ => lc_feed hSC hl hL M hi hI u5 u6 hd hg, fun _ => lc_row hSC hl hL M hi hI u5 u6 hd hg, fun _ => lc_law hSC hl hL M hi hI u5 u6 hd hg, fun _ => lc_fault hSC hl hL M hi hI u5 u6 hd hg, fun _ => lc_told hSC hl hL M hi hI u5 u6 hd hg, fun _ => lc_person hSC hl hL M hi hI u5 u6 hd hg, fun _ => lc_way hSC hl hL M hi hI u5 u6 hd hg, fun _ => lc_until hSC hl hL M hi hI u5 u6 hd hg, fun _ => lc_must hSC hl hL M hi hI u5 u6 hd hg, fun _ => lc_worth hSC hl hL M hi hI u5 u6 hd hg, fun _ => lc_day hSC hl hL M hi hI u5 u6 hd hg, fun _ => lc_call hSC hl hL M hi hI u5 u6 hd hg, fun _ => lc_holder hSC hl hL M hi hI u5 u6 hd hg, fun _ => lc_ends hSC hl hL M hi hI u5 u6 hd hg, fun _ => lc_balance hSC hl hL M hi hI u5 u6 hd hg, fun _ => lc_book hSC hl hL M hi hI u5 u6 hd hg, fun _ => lc_owed hSC hl hL M hi hI u5 u6 hd hg, fun _ => lc_tell hSC hl hL M hi hI u5 u6 hd hg, fun _ => lc_forget hSC hl hL M hi hI u5 u6 hd hg, fun _ => lc_judge hSC hl hL M hi hI u5 u6 hd hg, fun _ => lc_again hSC hl hL M hi hI u5 u6 hd hg, fun _ => lc_plan hSC hl hL M hi hI u5 u6 hd hg, fun _ => lc_best hSC hl hL M hi hI u5 u6 hd hg, fun _ => lc_gain hSC hl hL M hi hI u5 u6 hd hg, fun _ => hw _ (fun b0 hb0 bs k => lc_rest hSC hl hL M hi hI u5 u6 hd b0 hb0 k), fun _ => hw _ (fun b0 hb0 bs k => lc_polite hSC hl hL M hi hI u5 u6 hd b0 hb0 k), fun _ => lc_struck hSC hl hL M hi hI u5 u6 hd hg, fun _ => lc_hopeless hSC hl hL M hi hI u5 u6 hd hg, fun _ => lc_image hSC hl hL M hi hI u5 u6 hd hg, fun _ => lc_restore hSC hl hL M hi hI u5 u6 hd hg, fun _ => lc_count hSC hl hL M hi hI u5 u6 hd hg, fun _ _ _ _ _ _ _ _ _ _ _ _ _ _ _ _ _ _ _ _ _ _ _ _ _ _ _ _ _ _ _ => (hg M w u5 u6 hI).mono (by omega) (by omega)⟩⟩
theorem law_all (hSC : SC G L xs) (hl : l.stackTraces = false) (hL : L ≤ 3072) (hd : 40 < d) : ∀ m i, L ≤ i + 6 * m + 5 → i ≤ 3078 → ∀ M w len u5 u6, LI M w len → EvT [] l G d mLw_law_ 23 [.ref 98, .ref 100, .ref 206, .ref 3483, .int (nI i), u5, u6] [] M (4 * m) (24 * m + gr len) ΦL
  | 0, i, h, hi, M, w, len, u5, u6, hI => bLw_law__23 hSC M 100 206 3483 (nI i) u5 u6 ⟨fun _ => rfl, fun z => absurd ((end_iff hL (by omega)).mpr (by omega)) z⟩
  | m + 1, i, h, hi, M, w, len, u5, u6, hI => by
    by_cases c : i + 5 < L
    · have := law_one hSC hl hL hd m i c M w len u5 u6 hI (fun M' w' len' u5 u6 hI' => by
        refine bLw_law__1843 hSC M' 100 206 3483 (nI i) u5 u6 ?_
        rw [show (6 : Int32) = nI 6 from rfl, nI_add]
        exact law_all hSC hl hL hd m (i + 6) (by omega) (by omega) M' w' len' u5 u6 hI')
      exact this.mono (by omega) (by omega)
    · exact bLw_law__23 hSC M 100 206 3483 (nI i) u5 u6 ⟨fun _ => rfl, fun z => absurd ((end_iff hL (by omega)).mpr (by omega)) z⟩
end LLP
