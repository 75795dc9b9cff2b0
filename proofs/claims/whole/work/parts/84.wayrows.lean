/-! ===== the class: rows of WAYS, its helpers ===== -/
theorem idx_lt {r R p n : Nat} (hr : r < R) (hp : p < n) : r * n + p < R * n := by
  have : (r + 1) * n ≤ R * n := Nat.mul_le_mul_right n hr
  rw [Nat.succ_mul] at this
  omega
theorem idx_inj {r r' p p' n : Nat} (hp : p < n) (hp' : p' < n) (h : r * n + p = r' * n + p') : r = r' ∧ p = p' := by
  have h1 : (r * n + p) / n = r := by rw [Nat.add_comm, Nat.add_mul_div_right _ _ (by omega), Nat.div_eq_of_lt hp, Nat.zero_add]
  have h2 : (r' * n + p') / n = r' := by rw [Nat.add_comm, Nat.add_mul_div_right _ _ (by omega), Nat.div_eq_of_lt hp', Nat.zero_add]
  rw [h] at h1
  have e : r = r' := h1.symm.trans h2
  subst e
  omega
def EW (M : Mm) (E : Nat) (w : Wd) (k : Nat) : Prop := ∀ r, r < k → ∀ p, p < w_n w → m_i M E (r * w_n w + p) = nI (eB w r p)
theorem dcN_up (w : Wd) : ∀ e k, dcN w (e + 1) k = dcN w e k + (if isR w (k + e) = true then 1 else 0)
  | 0, k => by show dcN w 0 (k + 1) + _ = _; rfl
  | e + 1, k => by
    show dcN w (e + 1) (k + 1) + _ = dcN w e (k + 1) + _ + _
    rw [dcN_up w e (k + 1), show k + 1 + e = k + (e + 1) by omega]
    omega
theorem fiN_up (w : Wd) : ∀ e k, fiN w (e + 1) k = match fiN w e k with
    | some r => some r
    | none => if isR w (k + e) = true then some (k + e) else none
  | 0, k => by
    show (if isR w k = true then some k else none) = _
    rfl
  | e + 1, k => by
    have ih := fiN_up w e (k + 1)
    have e1 : fiN w (e + 2) k = if isR w k = true then some k else fiN w (e + 1) (k + 1) := rfl
    have e2 : fiN w (e + 1) k = if isR w k = true then some k else fiN w e (k + 1) := rfl
    rw [e1, e2]
    by_cases z : isR w k = true
    · rw [if_pos z, if_pos z]
    · rw [if_neg z, if_neg z, ih, show k + 1 + e = k + (e + 1) by omega]
theorem fiN_some {w : Wd} {e k r : Nat} (h : fiN w e k = some r) : fiN w (e + 1) k = some r := by rw [fiN_up, h]
theorem fiN_none {w : Wd} {e k : Nat} (h : fiN w e k = none) : fiN w (e + 1) k = if isR w (k + e) = true then some (k + e) else none := by rw [fiN_up, h]
theorem fiN_lt {w : Wd} : ∀ e k r, fiN w e k = some r → r < k + e
  | 0, _, _, h => by cases h
  | e + 1, k, r, h => by
    have e1 : fiN w (e + 1) k = if isR w k = true then some k else fiN w e (k + 1) := rfl
    rw [e1] at h
    by_cases z : isR w k = true
    · rw [if_pos z] at h; cases h; omega
    · rw [if_neg z] at h
      have := fiN_lt e (k + 1) r h
      omega
section SC6
variable {l : Launch} {G : Gx} {d : Nat} {bc bs : Nat} {Φ : OutV → Mm → Prop}
theorem ct_setWays (M : Mm) (B n r : Nat) (hs : m_sh M B = (20, 8)) (hn : n ≤ 5) (hr : r < 5 ^ n) (h : ∀ M', FrS (fun a _ => a = B) M M' → (∀ p, p < n → m_i M' B p = nI (dg n r p)) → Φ (.inl none) M') : Ct l G d mWr_setWays bc bs [.ref B, .int (nI r), .int (nI n)] M Φ := by
  obtain ⟨p5, -⟩ := p5_le hn
  refine Ct.of rfl (Nat.le_of_ble_eq_true rfl) ?_
  refine bWr_setWays_0 _ _ _ _ ?_
  have hend : ∀ (x3 x4 : Int32) M', x4 < 0 → FrS (fun a _ => a = B) M M' → (∀ p, p < n → m_i M' B p = nI (dg n r p)) → Ev l G d mWr_setWays 7 [.ref B, .int (nI r), .int (nI n), .int x3, .int x4] [] M' bc bs Φ := fun x3 x4 M' hx hF hd' => bWr_setWays_7 _ _ _ _ _ _ ⟨fun _ => h M' hF hd', fun z => absurd hx z⟩
  have loop : ∀ p M', p < n → FrS (fun a _ => a = B) M M' → (∀ q, p < q → q < n → m_i M' B q = nI (dg n r q)) → Ev l G d mWr_setWays 7 [.ref B, .int (nI r), .int (nI n), .int (nI (r / 5 ^ (n - 1 - p))), .int (nI p)] [] M' bc bs Φ := by
    intro p
    induction p with
    | zero =>
      intro M' hp hF hq
      have hx : r / 5 ^ (n - 1 - 0) < 2 ^ 31 := Nat.lt_of_le_of_lt (Nat.div_le_self _ _) (by omega)
      refine bWr_setWays_7 _ _ _ _ _ _ ⟨fun z => absurd z (by decide), fun _ => ⟨by rw [hF.2.2.2.1, hs], by rw [hF.2.2.2.1, hs]; exact vp_in_nI (by omega) (by omega), ?_⟩⟩
      rw [show (5 : Int32) = nI 5 from rfl, pk_rem hx (by omega) (by omega), nI_clamp (by omega)]
      refine hend _ _ _ (by decide) (hF.tr (FrS.si (P := fun a _ => a = B) rfl _)) (fun q hq2 => ?_)
      rw [m_i_si]
      by_cases z : q = 0
      · rw [if_pos ⟨rfl, z⟩, z]; rfl
      · rw [if_neg (fun y => z y.2)]; exact hq q (by omega) hq2
    | succ p ih =>
      intro M' hp hF hq
      have hx : r / 5 ^ (n - 1 - (p + 1)) < 2 ^ 31 := Nat.lt_of_le_of_lt (Nat.div_le_self _ _) (by omega)
      refine bWr_setWays_7 _ _ _ _ _ _ ⟨fun z => absurd z (nI_pos (by omega)), fun _ => ⟨by rw [hF.2.2.2.1, hs], by rw [hF.2.2.2.1, hs]; exact vp_in_nI (by omega) (by omega), ?_⟩⟩
      rw [show (5 : Int32) = nI 5 from rfl, pk_rem hx (by omega) (by omega), pk_div hx (by omega) (by omega), nI_clamp (by omega), pk_m1, Nat.div_div_eq_div_mul, ← Nat.pow_succ, show (n - 1 - (p + 1)).succ = n - 1 - p by omega]
      refine ih _ (by omega) (hF.tr (FrS.si (P := fun a _ => a = B) rfl _)) (fun q hq1 hq2 => ?_)
      rw [m_i_si]
      by_cases z : q = p + 1
      · rw [if_pos ⟨rfl, z⟩, z]; rfl
      · rw [if_neg (fun y => z y.2)]; exact hq q (by omega) hq2
  cases n with
  | zero => exact hend _ _ M (by decide) (FrS.rf _ _) (fun p hp => absurd hp (Nat.not_lt_zero p))
  | succ m =>
    rw [nI_pred]
    have := loop m M (by omega) (FrS.rf _ _) (fun q h1 h2 => by omega)
    rw [show m + 1 - 1 - m = 0 by omega, Nat.pow_zero, Nat.div_one] at this
    exact this
/-- what is known of rows of WAYS while they are worked -/
def WRs (M : Mm) (E len : Nat) : Prop := (m_sh M 189).1 = 9 ∧ m_r M 189 0 = E ∧ m_sh M E = (20, len)
theorem WRs.fr {M M' : Mm} {E len : Nat} {X : Nat → Nat → Prop} (h : WRs M E len) (hF : FrS X M M') : WRs M' E len := ⟨by rw [hF.2.2.2.1]; exact h.1, by rw [hF.2.1]; exact h.2.1, by rw [hF.2.2.2.1]; exact h.2.2⟩
theorem ct_keepEnds (M : Mm) (w : Wd) (hw : WOK w) (hn : w_n w ≤ 5) (E len : Nat) (hE : E ≠ 189 ∧ E ≠ 165) (hW : WRs M E len) (hl : 5 ^ w_n w * w_n w ≤ len) (hl2 : len < 2 ^ 20) (r : Nat) (hr : r < 5 ^ w_n w) (h165 : m_sh M 165 = (20, 8)) (hends : ∀ p, p < 8 → m_i M 165 p = g_eo (dyW w 0 none 0 none 0 0 (fun q => dg (w_n w) r q)) p) (hEW : EW M E w r) (h4 : (r = 0 → m_i M 189 4 = -1) ∧ ∀ k, r = k + 1 → m_i M 189 4 = nI (bstN (sbN w) k) ∧ m_i M 189 5 = nI (sbN w (bstN (sbN w) k))) (hd : 0 < d)
    (h : ∀ M', FrS (fun a j => a = E ∨ (a = 189 ∧ (j = 4 ∨ j = 5))) M M' → EW M' E w (r + 1) → m_i M' 189 4 = nI (bstN (sbN w) r) → m_i M' 189 5 = nI (sbN w (bstN (sbN w) r)) → Φ (.inl none) M') : Ct l G d mWr_keepEnds bc bs [.ref 189, .ref 165, .int (nI r), .int (nI (w_n w))] M Φ := by
  obtain ⟨p5, p5'⟩ := p5_le hn
  have hsb : ∀ r, sbN w r < 2 ^ 20 := fun r => by have := sB_le hw r (w_n w); unfold sbN; omega
  refine Ct.of rfl (Nat.le_of_ble_eq_true rfl) ?_
  refine bWr_keepEnds_0 _ _ _ _ _ ?_
  have loop : ∀ e p (u6 : Value) M', p + e = w_n w → FrS (fun a _ => a = E) M M' → EW M' E w r → (∀ q, q < p → m_i M' E (r * w_n w + q) = nI (eB w r q)) → Ev l G d mWr_keepEnds 6 [.ref 189, .ref 165, .int (nI r), .int (nI (w_n w)), .int (nI (sB w r p)), .int (nI p), u6] [] M' bc bs Φ := by
    intro e
    induction e with
    | zero =>
      intro p u6 M' hp hF hEW' hq
      obtain rfl : p = w_n w := by omega
      have hW' := hW.fr hF
      have hs : sB w r (w_n w) = sbN w r := rfl
      rw [hs]
      have g4 : m_i M' 189 4 = m_i M 189 4 := hF.1 _ _ (by omega)
      have g5 : m_i M' 189 5 = m_i M 189 5 := hF.1 _ _ (by omega)
      have hE1 : EW M' E w (r + 1) := fun r' hr' q hq2 => by
        by_cases z : r' = r
        · rw [z]; exact hq q hq2
        · exact hEW' r' (by omega) q hq2
      have h64 : bstN (sbN w) r = r → Ev l G d mWr_keepEnds 64 [.ref 189, .ref 165, .int (nI r), .int (nI (w_n w)), .int (nI (sbN w r)), .int (nI (w_n w)), u6] [] M' bc bs Φ := fun hb => by
        refine bWr_keepEnds_64 _ _ _ _ _ _ _ _ ⟨hW'.1, ?_⟩
        refine h _ ((hF.mono (fun a j q => Or.inl q)).tr ((FrS.si (Or.inr ⟨rfl, by omega⟩) _).tr (FrS.si (Or.inr ⟨rfl, by omega⟩) _))) (fun r' hr' q hq2 => ?_) ?_ ?_
        · rw [m_i_si, if_neg (by omega), m_i_si, if_neg (by omega)]; exact hE1 r' hr' q hq2
        · rw [m_i_si, if_neg (by omega), m_i_si, if_pos ⟨rfl, rfl⟩, hb]
        · rw [m_i_si, if_pos ⟨rfl, rfl⟩, hb]
      refine bWr_keepEnds_6 _ _ _ _ _ _ _ _ ⟨fun _ => ⟨hW'.1, ?_⟩, fun z => absurd (nI_le (Nat.le_refl _) (by omega)) z⟩
      rw [g4, g5]
      cases r with
      | zero => exact ⟨fun _ => h64 rfl, fun z => absurd (h4.1 rfl) z⟩
      | succ k =>
        obtain ⟨e4, e5⟩ := h4.2 k rfl
        have hb := (bstN_sp (sbN w) k).1
        have s1 := hsb (k + 1)
        have s2 := hsb (bstN (sbN w) k)
        have hst : bstN (sbN w) (k + 1) = if sbN w (k + 1) < sbN w (bstN (sbN w) k) then k + 1 else bstN (sbN w) k := rfl
        rw [e4, e5]
        refine ⟨fun z => absurd z (nI_neg (by omega)), fun _ => ⟨fun z => ?_, fun z => h64 ?_⟩⟩
        · have := (nI_leI (by omega) (by omega)).mp z
          refine h M' (hF.mono (fun a j q => Or.inl q)) hE1 ?_ ?_
          · rw [g4, e4, hst, if_neg (by omega)]
          · rw [g5, e5, hst, if_neg (by omega)]
        · rw [hst, if_pos (Nat.lt_of_not_le (fun y => z ((nI_leI (by omega) (by omega)).mpr y)))]
    | succ e ih =>
      intro p u6 M' hp hF hEW' hq
      have hW' := hW.fr hF
      have hix := idx_lt hr (show p < w_n w by omega)
      have hl' := late_sp (dyW_eo hw (out := 0) (pl := none) (pb := 0) (tu := none) (tc := 0) (tw := 0) (wy := fun q => dg (w_n w) r q) (fun q e => by cases e) (fun p q => by cases q) (fun q _ => by have := dg_lt (w_n w) r q; omega) p)
      refine bWr_keepEnds_6 _ _ _ _ _ _ _ _ ⟨fun z => absurd z (nI_not_le (by omega) (by omega)), fun _ => ⟨by rw [hF.2.2.2.1, h165], by rw [hF.2.2.2.1, h165]; exact vp_in_nI (by omega) (by omega), CallVN.cps0 (by omega) ?_⟩⟩
      rw [nI_clamp (by omega), hF.1 _ _ (by omega), hends p (by omega)]
      refine ct_late M' _ ?_
      rw [hl'.1]
      refine bWr_keepEnds_19 _ _ _ _ _ _ _ _ _ ⟨hW'.1, by rw [hW'.2.1, hW'.2.2], ?_, ?_⟩
      · rw [hW'.2.1, hW'.2.2, pk_mul, nI_add]; exact vp_in_nI (by omega) (by omega)
      · rw [hW'.2.1, pk_mul, nI_add, nI_add, nI_clamp (by omega), nI_1]
        have e1 : sB w r p + lateN (g_eo (dyW w 0 none 0 none 0 0 (fun q => dg (w_n w) r q)) p) = sB w r (p + 1) := rfl
        rw [e1]
        refine ih (p + 1) _ _ (by omega) (hF.tr (FrS.si (P := fun a _ => a = E) rfl _)) (fun r' hr' q hq2 => ?_) (fun q hq2 => ?_)
        · rw [m_i_si, if_neg (fun y => by have := (idx_inj hq2 (show p < w_n w by omega) y.2).1; omega)]
          exact hEW' r' hr' q hq2
        · rw [m_i_si]
          by_cases z : q = p
          · rw [if_pos ⟨rfl, by rw [z]⟩, z]; rfl
          · rw [if_neg (by omega)]; exact hq q (by omega)
  exact loop (w_n w) 0 _ M (by omega) (FrS.rf _ _) hEW (fun q hq => absurd hq (Nat.not_lt_zero q))
theorem ct_wIsRest (M : Mm) (w : Wd) (hw : WOK w) (hn : w_n w ≤ 5) (E len : Nat) (hW : WRs M E len) (hl : 5 ^ w_n w * w_n w ≤ len) (hl2 : len < 2 ^ 20) (hEW : EW M E w (5 ^ w_n w)) (r : Nat) (hr : r < 5 ^ w_n w) (h : Φ (.inl (some (.int (if isR w r = true then 1 else 0)))) M) : Ct l G d mWr_isRest bc bs [.ref 189, .int (nI r), .int (nI (w_n w))] M Φ := by
  obtain ⟨p5, p5'⟩ := p5_le hn
  obtain ⟨w1, w2, w3⟩ := hW
  refine Ct.of rfl (Nat.le_of_ble_eq_true rfl) ?_
  refine bWr_isRest_0 _ _ _ _ ?_
  have hend : ∀ (x3 x4 x5 : Int32) (u6 u7 : Value), x5 < 0 → (∀ q, q < w_n w → ∀ v, v < 5 → ¬ eB w (rsN (w_n w) r q v) q < eB w r q) → Ev l G d mWr_isRest 10 [.ref 189, .int (nI r), .int (nI (w_n w)), .int x3, .int x4, .int x5, u6, u7] [] M bc bs Φ := fun x3 x4 x5 u6 u7 hx hq => by
    have : isR w r = true := (isR_iff w r).mpr hq
    rw [if_pos this] at h
    exact bWr_isRest_10 _ _ _ _ _ _ _ _ _ ⟨fun _ => h, fun z => absurd hx z⟩
  -- one PERSON, and what comes behind it
  have one : ∀ p, p < w_n w → (∀ q, p < q → q < w_n w → ∀ v, v < 5 → ¬ eB w (rsN (w_n w) r q v) q < eB w r q) → (∀ (u6 u7 : Value), (∀ q, p ≤ q → q < w_n w → ∀ v, v < 5 → ¬ eB w (rsN (w_n w) r q v) q < eB w r q) → Ev l G d mWr_isRest 10 [.ref 189, .int (nI r), .int (nI (w_n w)), .int (nI (r / 5 ^ (w_n w - 1 - p) / 5)), .int (nI (5 ^ (w_n w - 1 - p) * 5)), .int (nI p + -1), u6, u7] [] M bc bs Φ) → ∀ (u6 u7 : Value), Ev l G d mWr_isRest 10 [.ref 189, .int (nI r), .int (nI (w_n w)), .int (nI (r / 5 ^ (w_n w - 1 - p))), .int (nI (5 ^ (w_n w - 1 - p))), .int (nI p), u6, u7] [] M bc bs Φ := by
    intro p hp hq hnext u6 u7
    obtain ⟨c1, c2⟩ := p5_le (n := w_n w - 1 - p) (by omega)
    have hx : r / 5 ^ (w_n w - 1 - p) < 2 ^ 31 := Nat.lt_of_le_of_lt (Nat.div_le_self _ _) (by omega)
    have hlow := (rsN_lt (v := 0) hp hr (by omega)).2
    refine bWr_isRest_10 _ _ _ _ _ _ _ _ _ ⟨fun z => absurd z (nI_pos (by omega)), fun _ => ?_⟩
    rw [show (5 : Int32) = nI 5 from rfl, pk_rem hx (by omega) (by omega), pk_mul, pk_sub (show r / 5 ^ (w_n w - 1 - p) % 5 * 5 ^ (w_n w - 1 - p) ≤ r from hlow)]
    have lv : ∀ e v, v + e = 5 → (∀ v', v' < v → ¬ eB w (rsN (w_n w) r p v') p < eB w r p) → Ev l G d mWr_isRest 28 [.ref 189, .int (nI r), .int (nI (w_n w)), .int (nI (r / 5 ^ (w_n w - 1 - p))), .int (nI (5 ^ (w_n w - 1 - p))), .int (nI p), .int (nI (r - r / 5 ^ (w_n w - 1 - p) % 5 * 5 ^ (w_n w - 1 - p))), .int (nI v)] [] M bc bs Φ := by
      intro e
      induction e with
      | zero =>
        intro v hv hv2
        refine bWr_isRest_28 _ _ _ _ _ _ _ _ _ ⟨fun _ => ?_, fun z => absurd (nI_le (a := 5) (by omega) (by omega)) z⟩
        rw [show (5 : Int32) = nI 5 from rfl, pk_div hx (by omega) (by omega), pk_mul]
        refine hnext _ _ (fun q h1 h2 v' hv' => ?_)
        by_cases z : q = p
        · rw [z]; exact hv2 v' (by omega)
        · exact hq q (by omega) h2 v' hv'
      | succ e ih =>
        intro v hv hv2
        obtain ⟨k1, k2⟩ := rsN_lt (v := v) hp hr (by omega)
        have ers : r - r / 5 ^ (w_n w - 1 - p) % 5 * 5 ^ (w_n w - 1 - p) + v * 5 ^ (w_n w - 1 - p) = rsN (w_n w) r p v := rfl
        have i1 := idx_lt k1 hp
        have i2 := idx_lt hr hp
        have x1 := hEW _ k1 p hp
        have x2 := hEW r hr p hp
        have l1 := eB_le hw (rsN (w_n w) r p v) p
        have l2 := eB_le hw r p
        refine bWr_isRest_28 _ _ _ _ _ _ _ _ _ ⟨fun z => absurd z (nI_not_le (b := 5) (by omega) (by omega)), fun _ => ?_⟩
        rw [pk_mul, nI_add, ers, pk_mul, nI_add, pk_mul, nI_add, w2, w3, nI_clamp (show r * w_n w + p < 2 ^ 31 by omega), nI_clamp (show rsN (w_n w) r p v * w_n w + p < 2 ^ 31 by omega), x1, x2]
        refine ⟨w1, rfl, vp_in_nI (by omega) (by omega), vp_in_nI (by omega) (by omega), fun z => ?_, fun z => ?_⟩
        · rw [nI_1]
          refine ih (v + 1) (by omega) (fun v' hv' => ?_)
          by_cases y : v' = v
          · rw [y]; have := (nI_leI (by omega) (by omega)).mp z; omega
          · exact hv2 v' (by omega)
        · have : ¬ isR w r = true := fun y => by
            have := (isR_iff w r).mp y p hp v (by omega)
            exact z ((nI_leI (by omega) (by omega)).mpr (by omega))
          rw [if_neg this] at h
          exact h
    exact lv 5 0 (by omega) (fun v' hv' => absurd hv' (Nat.not_lt_zero v'))
  have loop : ∀ p, p < w_n w → (∀ q, p < q → q < w_n w → ∀ v, v < 5 → ¬ eB w (rsN (w_n w) r q v) q < eB w r q) → ∀ (u6 u7 : Value), Ev l G d mWr_isRest 10 [.ref 189, .int (nI r), .int (nI (w_n w)), .int (nI (r / 5 ^ (w_n w - 1 - p))), .int (nI (5 ^ (w_n w - 1 - p))), .int (nI p), u6, u7] [] M bc bs Φ := by
    intro p
    induction p with
    | zero =>
      intro hp hq
      refine one 0 hp hq (fun u6 u7 ha => hend _ _ _ _ _ (by decide) (fun q hq2 => ha q (by omega) hq2))
    | succ p ih =>
      intro hp hq
      refine one (p + 1) hp hq (fun u6 u7 ha => ?_)
      have := ih (by omega) (fun q h1 h2 => ha q (by omega) h2) u6 u7
      rw [show w_n w - 1 - p = (w_n w - 1 - (p + 1)) + 1 by omega, Nat.pow_succ, ← Nat.div_div_eq_div_mul] at this
      rw [pk_m1]
      exact this
  cases hnn : w_n w with
  | zero =>
    have := hend (nI r) 1 (nI 0 - 1) .null .null (by decide) (fun q hq => by omega)
    rw [hnn] at this
    exact this
  | succ m =>
    have := loop m (by omega) (fun q h1 h2 => by omega) .null .null
    rw [hnn, show m + 1 - 1 - m = 0 by omega, Nat.pow_zero, Nat.div_one] at this
    rw [nI_pred]
    exact this
theorem ct_findRests (M : Mm) (w : Wd) (hw : WOK w) (hn : w_n w ≤ 5) (E len : Nat) (hE : E ≠ 189) (hW : WRs M E len) (hl : 5 ^ w_n w * w_n w ≤ len) (hl2 : len < 2 ^ 20) (hEW : EW M E w (5 ^ w_n w)) (hd : 0 < d) (h : ∀ M', FrS (fun a j => a = 189 ∧ (j = 2 ∨ j = 3)) M M' → m_i M' 189 2 = nI (dcN w (5 ^ w_n w) 0) → m_i M' 189 3 = oN (fiN w (5 ^ w_n w) 0) → Φ (.inl none) M') : Ct l G d mWr_findRests bc bs [.ref 189, .int (nI (5 ^ w_n w)), .int (nI (w_n w))] M Φ := by
  obtain ⟨p5, p5'⟩ := p5_le hn
  refine Ct.of rfl (Nat.le_of_ble_eq_true rfl) ?_
  refine bWr_findRests_0 _ _ _ _ ⟨hW.1, ?_⟩
  refine bWr_findRests_10 _ _ _ _ _ ?_
  have loop : ∀ e r M', r + e = 5 ^ w_n w → FrS (fun a j => a = 189 ∧ (j = 2 ∨ j = 3)) M M' → m_i M' 189 2 = nI (dcN w r 0) → m_i M' 189 3 = oN (fiN w r 0) → Ev l G d mWr_findRests 12 [.ref 189, .int (nI (5 ^ w_n w)), .int (nI (w_n w)), .int (nI r)] [] M' bc bs Φ := by
    intro e
    induction e with
    | zero =>
      intro r M' hr hF e2 e3
      obtain rfl : r = 5 ^ w_n w := by omega
      exact bWr_findRests_12 _ _ _ _ _ ⟨fun _ => h M' hF e2 e3, fun z => absurd (nI_le (Nat.le_refl _) (by omega)) z⟩
    | succ e ih =>
      intro r M' hr hF e2 e3
      have hW' := hW.fr hF
      have hEW' : EW M' E w (5 ^ w_n w) := fun r' hr' p hp => by rw [hF.1 _ _ (by omega)]; exact hEW r' hr' p hp
      have hdc := dcN_up w r 0
      rw [Nat.zero_add] at hdc
      refine bWr_findRests_12 _ _ _ _ _ ⟨fun z => absurd z (nI_not_le (by omega) (by omega)), fun _ => ⟨hW'.1, CallVC.cps0 (by omega) ?_⟩⟩
      refine ct_wIsRest M' w hw hn E len hW' hl hl2 hEW' r (by omega) ?_
      refine bWr_findRests_23 _ _ _ _ _ _ ⟨fun z => ?_, fun z => ⟨hW'.1, ?_⟩⟩
      · have hi : ¬ isR w r = true := fun q => by rw [q] at z; exact absurd z (by decide)
        rw [if_neg hi, Nat.add_zero] at hdc
        have hfi : fiN w (r + 1) 0 = fiN w r 0 := by
          cases q : fiN w r 0 with
          | none => rw [fiN_none q, Nat.zero_add, if_neg hi]
          | some b => rw [fiN_some q]
        refine bWr_findRests_56 _ _ _ _ _ ?_
        rw [nI_1]
        exact ih (r + 1) M' (by omega) hF (by rw [hdc]; exact e2) (by rw [hfi]; exact e3)
      · have hi : isR w r = true := by
          cases q : isR w r with
          | true => rfl
          | false => rw [q] at z; exact absurd rfl z
        rw [if_pos hi] at hdc
        rw [e2, nI_1, ← hdc]
        have y3 : m_i (m_si M' 189 2 (nI (dcN w (r + 1) 0))) 189 3 = oN (fiN w r 0) := by rw [m_i_si, if_neg (by omega)]; exact e3
        rw [y3]
        have hnext : ∀ v, v = oN (fiN w (r + 1) 0) → Ev l G d mWr_findRests 56 [.ref 189, .int (nI (5 ^ w_n w)), .int (nI (w_n w)), .int (nI r)] [] (m_si (m_si M' 189 2 (nI (dcN w (r + 1) 0))) 189 3 v) bc bs Φ := fun v ev => by
          refine bWr_findRests_56 _ _ _ _ _ ?_
          rw [nI_1]
          refine ih (r + 1) _ (by omega) ((hF.tr (FrS.si ⟨rfl, by omega⟩ _)).tr (FrS.si ⟨rfl, by omega⟩ _)) ?_ ?_
          · rw [m_i_si, if_neg (by omega), m_i_si, if_pos ⟨rfl, rfl⟩]
          · rw [m_i_si, if_pos ⟨rfl, rfl⟩, ev]
        cases q : fiN w r 0 with
        | none => exact ⟨fun z2 => absurd rfl z2, fun _ => hnext _ (by rw [fiN_none q, Nat.zero_add, if_pos hi]; rfl)⟩
        | some b =>
          have := fiN_lt _ _ _ q
          exact ⟨fun _ => hnext _ (by rw [fiN_some q]), fun z2 => absurd z2 (nI_neg (by omega))⟩
  refine loop (5 ^ w_n w) 0 _ (by omega) ((FrS.si ⟨rfl, by omega⟩ _).tr (FrS.si ⟨rfl, by omega⟩ _)) ?_ ?_
  · rw [m_i_si, if_neg (by omega), m_i_si, if_pos ⟨rfl, rfl⟩]; rfl
  · rw [m_i_si, if_pos ⟨rfl, rfl⟩]; rfl
end SC6
