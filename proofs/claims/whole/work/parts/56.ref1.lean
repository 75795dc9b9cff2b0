/-! ===== the reference: what a formula comes to ===== -/
theorem nI_dec (n : Nat) : nI (n + 1) + -1 = nI n := by rw [← Int32.sub_eq_add_neg]; exact nI_pred n
section SR1
variable {l : Launch} {G : Gx} {d : Nat} {bc bs : Nat} {Φ : OutV → Mm → Prop}
theorem ct_both (M : Mm) (s a b : Int32) (h7 : s < -7) (h8 : ¬ s = -8) (h17 : -17 ≤ s) (hb : s < -15 → (a = 0 ∨ a = 1) ∧ (b = 0 ∨ b = 1)) (h : Φ (.inl (some (.int (joinedS s a b)))) M) : Ct l G d mRe_both bc bs [.int (encS s), .int a, .int b] M Φ := by
  have e7 : s.toInt < -7 := Int32.lt_iff_toInt_lt.mp h7
  have e17 : -17 ≤ s.toInt := Int32.le_iff_toInt_le.mp h17
  have e8 : s.toInt ≠ -8 := fun z => h8 (i32_lit z (-8) rfl)
  have hc : s.toInt = -9 ∨ s.toInt = -10 ∨ s.toInt = -11 ∨ s.toInt = -12 ∨ s.toInt = -13 ∨ s.toInt = -14 ∨ s.toInt = -15 ∨ s.toInt = -16 ∨ s.toInt = -17 := by omega
  refine Ct.of rfl (Nat.le_of_ble_eq_true rfl) ?_
  rcases hc with e | e | e | e | e | e | e | e | e
  · obtain rfl := i32_lit e (-9) rfl
    rw [show encS (-9) = 10 from by decide]
    exact bRe_both_0 M _ a b ⟨fun _ => h, fun q => absurd q (by decide), fun q => absurd q (by decide), fun q => absurd q (by decide), fun q => absurd q (by decide), fun q => absurd q (by decide), fun q => absurd q (by decide), fun q => absurd q (by decide), fun q => absurd q (by decide), fun c1 c2 c3 c4 c5 c6 c7 c8 c9 => absurd rfl c1⟩
  · obtain rfl := i32_lit e (-10) rfl
    rw [show encS (-10) = 11 from by decide]
    exact bRe_both_0 M _ a b ⟨fun q => absurd q (by decide), fun _ => h, fun q => absurd q (by decide), fun q => absurd q (by decide), fun q => absurd q (by decide), fun q => absurd q (by decide), fun q => absurd q (by decide), fun q => absurd q (by decide), fun q => absurd q (by decide), fun c1 c2 c3 c4 c5 c6 c7 c8 c9 => absurd rfl c2⟩
  · obtain rfl := i32_lit e (-11) rfl
    rw [show encS (-11) = 12 from by decide]
    exact bRe_both_0 M _ a b ⟨fun q => absurd q (by decide), fun q => absurd q (by decide), fun _ => h, fun q => absurd q (by decide), fun q => absurd q (by decide), fun q => absurd q (by decide), fun q => absurd q (by decide), fun q => absurd q (by decide), fun q => absurd q (by decide), fun c1 c2 c3 c4 c5 c6 c7 c8 c9 => absurd rfl c3⟩
  · obtain rfl := i32_lit e (-12) rfl
    rw [show encS (-12) = 13 from by decide]
    have h2 : Φ (.inl (some (.int (if b = 0 then 0 else a / b)))) M := h
    exact bRe_both_0 M _ a b ⟨fun q => absurd q (by decide), fun q => absurd q (by decide), fun q => absurd q (by decide), fun _ => ⟨fun q => ⟨q, by rw [if_neg q] at h2; exact h2⟩, fun q => by rw [if_pos q] at h2; exact h2⟩, fun q => absurd q (by decide), fun q => absurd q (by decide), fun q => absurd q (by decide), fun q => absurd q (by decide), fun q => absurd q (by decide), fun c1 c2 c3 c4 c5 c6 c7 c8 c9 => absurd rfl c4⟩
  · obtain rfl := i32_lit e (-13) rfl
    rw [show encS (-13) = 14 from by decide]
    have h2 : Φ (.inl (some (.int (if b ≤ a then 0 else 1)))) M := h
    exact bRe_both_0 M _ a b ⟨fun q => absurd q (by decide), fun q => absurd q (by decide), fun q => absurd q (by decide), fun q => absurd q (by decide), fun _ => ⟨fun q => by rw [if_pos q] at h2; exact h2, fun q => by rw [if_neg q] at h2; exact h2⟩, fun q => absurd q (by decide), fun q => absurd q (by decide), fun q => absurd q (by decide), fun q => absurd q (by decide), fun c1 c2 c3 c4 c5 c6 c7 c8 c9 => absurd rfl c5⟩
  · obtain rfl := i32_lit e (-14) rfl
    rw [show encS (-14) = 15 from by decide]
    have h2 : Φ (.inl (some (.int (if a ≤ b then 0 else 1)))) M := h
    exact bRe_both_0 M _ a b ⟨fun q => absurd q (by decide), fun q => absurd q (by decide), fun q => absurd q (by decide), fun q => absurd q (by decide), fun q => absurd q (by decide), fun _ => ⟨fun q => by rw [if_pos q] at h2; exact h2, fun q => by rw [if_neg q] at h2; exact h2⟩, fun q => absurd q (by decide), fun q => absurd q (by decide), fun q => absurd q (by decide), fun c1 c2 c3 c4 c5 c6 c7 c8 c9 => absurd rfl c6⟩
  · obtain rfl := i32_lit e (-15) rfl
    rw [show encS (-15) = 16 from by decide]
    have h2 : Φ (.inl (some (.int (if a = b then 1 else 0)))) M := h
    exact bRe_both_0 M _ a b ⟨fun q => absurd q (by decide), fun q => absurd q (by decide), fun q => absurd q (by decide), fun q => absurd q (by decide), fun q => absurd q (by decide), fun q => absurd q (by decide), fun _ => ⟨fun q => by rw [if_neg q] at h2; exact h2, fun q => by rw [if_pos q] at h2; exact h2⟩, fun q => absurd q (by decide), fun q => absurd q (by decide), fun c1 c2 c3 c4 c5 c6 c7 c8 c9 => absurd rfl c7⟩
  · obtain rfl := i32_lit e (-16) rfl
    rw [show encS (-16) = 18 from by decide]
    obtain ⟨b1, b2⟩ := hb (by decide)
    have h2 : Φ (.inl (some (.int (a &&& b)))) M := h
    rw [← (b01_and b1 b2).2] at h2
    exact bRe_both_0 M _ a b ⟨fun q => absurd q (by decide), fun q => absurd q (by decide), fun q => absurd q (by decide), fun q => absurd q (by decide), fun q => absurd q (by decide), fun q => absurd q (by decide), fun q => absurd q (by decide), fun q => absurd q (by decide), fun _ => h2, fun c1 c2 c3 c4 c5 c6 c7 c8 c9 => absurd rfl c9⟩
  · obtain rfl := i32_lit e (-17) rfl
    rw [show encS (-17) = 19 from by decide]
    obtain ⟨b1, b2⟩ := hb (by decide)
    have h2 : Φ (.inl (some (.int (a ||| b)))) M := h
    rw [← (b01_or b1 b2).2] at h2
    exact bRe_both_0 M _ a b ⟨fun q => absurd q (by decide), fun q => absurd q (by decide), fun q => absurd q (by decide), fun q => absurd q (by decide), fun q => absurd q (by decide), fun q => absurd q (by decide), fun q => absurd q (by decide), fun q => absurd q (by decide), fun q => absurd q (by decide), fun _ _ _ _ _ _ _ _ _ => ⟨fun q => by rw [if_pos q] at h2; exact h2, fun q => by rw [if_neg q] at h2; exact h2⟩⟩
/-- a name's number -/
theorem names_at {M : Mm} {fg fo : Nat → Int32} {hour s : Int32} (hN : NMd M fg fo hour) (h0 : s < 0) (h7 : ¬ s < -7) : encS s = -s ∧ ¬ (8 : Int32) ≤ -s ∧ ¬ -s = 0 ∧ vp_in (-s - 1) 7 ∧ m_i M 255 (-s - 1).toNatClampNeg = opdS fg fo hour s := by
  have e0 : s.toInt < 0 := Int32.lt_iff_toInt_lt.mp h0
  have e7 : ¬ s.toInt < -7 := fun z => h7 (Int32.lt_iff_toInt_lt.mpr z)
  have hc : s.toInt = -1 ∨ s.toInt = -2 ∨ s.toInt = -3 ∨ s.toInt = -4 ∨ s.toInt = -5 ∨ s.toInt = -6 ∨ s.toInt = -7 := by omega
  obtain ⟨hN1, hN2⟩ := hN
  rcases hc with e | e | e | e | e | e | e
  · obtain rfl := i32_lit e (-1) rfl
    exact ⟨by decide, by decide, by decide, vp_in_dec rfl, (hN1 0 (by omega)).1⟩
  · obtain rfl := i32_lit e (-2) rfl
    exact ⟨by decide, by decide, by decide, vp_in_dec rfl, (hN1 1 (by omega)).1⟩
  · obtain rfl := i32_lit e (-3) rfl
    exact ⟨by decide, by decide, by decide, vp_in_dec rfl, (hN1 2 (by omega)).1⟩
  · obtain rfl := i32_lit e (-4) rfl
    exact ⟨by decide, by decide, by decide, vp_in_dec rfl, (hN1 0 (by omega)).2⟩
  · obtain rfl := i32_lit e (-5) rfl
    exact ⟨by decide, by decide, by decide, vp_in_dec rfl, (hN1 1 (by omega)).2⟩
  · obtain rfl := i32_lit e (-6) rfl
    exact ⟨by decide, by decide, by decide, vp_in_dec rfl, (hN1 2 (by omega)).2⟩
  · obtain rfl := i32_lit e (-7) rfl
    exact ⟨by decide, by decide, by decide, vp_in_dec rfl, hN2⟩
theorem enc_big {s : Int32} (h7 : s < -7) (h17 : -17 ≤ s) : (8 : Int32) ≤ encS s ∧ (encS s = 17 ↔ s = -8) := by
  have e7 : s.toInt < -7 := Int32.lt_iff_toInt_lt.mp h7
  have e17 : -17 ≤ s.toInt := Int32.le_iff_toInt_le.mp h17
  have hc : s.toInt = -8 ∨ s.toInt = -9 ∨ s.toInt = -10 ∨ s.toInt = -11 ∨ s.toInt = -12 ∨ s.toInt = -13 ∨ s.toInt = -14 ∨ s.toInt = -15 ∨ s.toInt = -16 ∨ s.toInt = -17 := by omega
  rcases hc with e | e | e | e | e | e | e | e | e | e
  · obtain rfl := i32_lit e (-8) rfl; decide
  · obtain rfl := i32_lit e (-9) rfl; decide
  · obtain rfl := i32_lit e (-10) rfl; decide
  · obtain rfl := i32_lit e (-11) rfl; decide
  · obtain rfl := i32_lit e (-12) rfl; decide
  · obtain rfl := i32_lit e (-13) rfl; decide
  · obtain rfl := i32_lit e (-14) rfl; decide
  · obtain rfl := i32_lit e (-15) rfl; decide
  · obtain rfl := i32_lit e (-16) rfl; decide
  · obtain rfl := i32_lit e (-17) rfl; decide
theorem cpos_lt (s : List Int32) : ∀ j, cpos s j < cpos s (j + 1) := fun j => by
  show cpos s j < cpos s j + _
  split <;> omega
theorem cpos_mono (s : List Int32) : ∀ k j, cpos s j ≤ cpos s (j + k)
  | 0, j => Nat.le_refl _
  | k + 1, j => Nat.le_trans (cpos_mono s k j) (Nat.le_of_lt (cpos_lt s (j + k)))
theorem ct_comes (M : Mm) (hS : RS M) (r : Nat) (hr : r < 10) (s : List Int32) (fin : Bool) (fg fo : Nat → Int32) (hour : Int32) (hN : NMd M fg fo hour) (hlen : m_i M 231 r = nI (cpos s s.length)) (h800 : cpos s s.length ≤ 800) (hC : CDrep M (244 + r) s) (hok : okD (stL s) 0 s.length 0) (hty : tyD (stL s) 0 s.length [] [fin]) (hd : 0 < d)
    (h : ∀ M', FrS (fun a _ => a = 254) M M' → Φ (.inl (some (.int ((evS fg fo hour (stL s) 0 s.length []).headD 0)))) M') : Ct l G d mRe_comes bc bs [.ref 206, .int (nI r)] M Φ := by
  refine Ct.of rfl (Nat.le_of_ble_eq_true rfl) ?_
  refine bRe_comes_0 M 206 _ ⟨hS.c, by rw [hS.r_code, hS.s_code], by rw [hS.r_code, hS.s_code]; exact vp_in_nI (by omega) (by omega), ?_⟩
  rw [hS.r_code, nI_clamp (by omega), hS.r_cd hr]
  have loop : ∀ e j st ts M', j + e = s.length → st.length ≤ 64 → okD (stL s) j e st.length → tyD (stL s) j e ts [fin] → bvL ts st → (∀ k, k < st.length → m_i M' 254 k = st.getD (st.length - 1 - k) 0) → evS fg fo hour (stL s) j e st = evS fg fo hour (stL s) 0 s.length [] → FrS (fun a _ => a = 254) M M' → Ev l G d mRe_comes 12 [.ref 206, .int (nI r), .ref (244 + r), .int (nI st.length), .int (nI (cpos s j))] [] M' bc bs Φ := by
    intro e
    induction e with
    | zero =>
      intro j st ts M' hj h64 hk ht hb hw he hF
      have hS' := hS.fr hF
      have hjl : j = s.length := by omega
      subst hjl
      have hk1 : st.length = 1 := hk
      have el : m_i M' (m_r M' 206 22) (nI r).toNatClampNeg = nI (cpos s s.length) := by rw [hS'.r_cLong, nI_clamp (by omega), hF.1 _ _ (by omega)]; exact hlen
      refine bRe_comes_12 M' 206 _ (244 + r) _ _ ⟨hS'.c, by rw [hS'.r_cLong, hS'.s_cLong], by rw [hS'.r_cLong, hS'.s_cLong]; exact vp_in_nI (by omega) (by omega), fun _ => ⟨by rw [hS'.r_stack, hS'.s_stack], by rw [hS'.r_stack, hS'.s_stack]; exact vp_in_dec rfl, ?_⟩, fun q => absurd (by rw [el]; exact nI_le (Nat.le_refl _) (by omega)) q⟩
      have e0 : m_i M' (m_r M' 206 25) (0 : Int32).toNatClampNeg = (evS fg fo hour (stL s) 0 s.length []).headD 0 := by
        rw [hS'.r_stack, ← he]
        show m_i M' 254 0 = st.headD 0
        rw [hw 0 (by omega), hk1]
        match st, hk1 with
        | [a], _ => rfl
      rw [e0]
      exact h M' hF
    | succ e ih =>
      intro j st ts M' hj h64 hk ht hb hw he hF
      have hS' := hS.fr hF
      have hcl1 : cpos s (j + 1) = cpos s j + (if stL s j < 0 then 1 else 2) := rfl
      have hcm : cpos s (j + 1) ≤ cpos s s.length := by
        have := cpos_mono s e (j + 1)
        rw [show j + 1 + e = s.length by omega] at this
        exact this
      have hcl := cpos_lt s j
      have el : m_i M' (m_r M' 206 22) (nI r).toNatClampNeg = nI (cpos s s.length) := by rw [hS'.r_cLong, nI_clamp (by omega), hF.1 _ _ (by omega)]; exact hlen
      have hCj := hC j (by omega)
      have ecd : ∀ k, m_i M' (244 + r) k = m_i M (244 + r) k := fun k => hF.1 _ _ (by omega)
      have hN' : NMd M' fg fo hour := ⟨fun k hk => by rw [hF.1 _ _ (by omega), hF.1 _ _ (by omega)]; exact hN.1 k hk, by rw [hF.1 _ _ (by omega)]; exact hN.2⟩
      have ccl : (nI (cpos s j)).toNatClampNeg = cpos s j := nI_clamp (by omega)
      have scl : (nI st.length).toNatClampNeg = st.length := nI_clamp (by omega)
      have sin : vp_in (nI st.length) 800 := vp_in_nI (by omega) (by omega)
      rw [okD_succ] at hk
      rw [tyD_succ] at ht
      rw [evS_succ] at he
      obtain ⟨⟨t1, t2⟩, ht⟩ := ht
      -- an operand on top
      have hpush : ∀ (v x : Int32) (y : Nat), v = opdS fg fo hour (stL s j) → x + 1 = nI (cpos s (j + 1)) → ¬ stL s j < -7 → Ev l G d mRe_comes 150 [.ref 206, .int (nI r), .ref (244 + r), .int (nI st.length + 1), .int x] [] (m_si M' 254 st.length v) bc bs Φ := fun v x y hv hx h7 => by
        rw [if_neg h7] at hk he
        rw [if_neg h7] at ht
        refine bRe_comes_150 _ 206 _ _ _ _ ?_
        rw [hx, nI_1]
        refine ih (j + 1) (v :: st) (false :: ts) _ (by omega) (by show st.length + 1 ≤ 64; omega) hk.2 ht ⟨fun z => absurd z (by decide), hb⟩ (fun k hkk => ?_) (by rw [hv]; exact he) (hF.tr (FrS.si (P := fun a _ => a = 254) rfl _))
        rw [m_i_si]
        have hkk' : k < st.length + 1 := hkk
        by_cases z : k = st.length
        · rw [if_pos ⟨rfl, z⟩, show (v :: st).length - 1 - k = 0 by show st.length + 1 - 1 - k = 0; omega]
          rfl
        · rw [if_neg (fun y => z y.2), hw k (by omega), show (v :: st).length - 1 - k = (st.length - 1 - k) + 1 by show st.length + 1 - 1 - k = _; omega]
          rfl
      refine bRe_comes_12 M' 206 _ (244 + r) _ _ ⟨hS'.c, by rw [hS'.r_cLong, hS'.s_cLong], by rw [hS'.r_cLong, hS'.s_cLong]; exact vp_in_nI (by omega) (by omega), fun q => absurd q (by rw [el]; exact nI_not_le (by omega) (by omega)), fun _ => ⟨by rw [hS'.s_cd hr], by rw [hS'.s_cd hr]; exact vp_in_nI (by omega) (by omega), ?_⟩⟩
      rw [ccl, scl, ecd, ecd, hS'.r_stack, hS'.s_stack, hS'.r_names, hS'.s_names, hS'.s_cd hr]
      by_cases q0 : stL s j < 0
      · rw [if_pos q0] at hCj hcl1
        rw [hCj]
        by_cases q7 : stL s j < -7
        · obtain ⟨g1, g2⟩ := enc_big q7 t1
          refine ⟨fun _ => ⟨fun n17 => ?_, fun e17 => ?_⟩, fun q => absurd g1 q⟩
          · have q8 : ¬ stL s j = -8 := fun z => n17 (g2.mpr z)
            rw [if_pos q7, if_neg q8] at hk he
            rw [if_pos q7, if_neg q8] at ht
            match st, ts, h64, hk, he, ht, hb, hw, scl, sin with
            | b :: a :: rr, tb :: ta :: tr, h64, hk, he, ht, hb, hw, scl, sin =>
              have hl2 : (b :: a :: rr).length = rr.length + 2 := rfl
              have ea : nI (b :: a :: rr).length + -1 = nI (rr.length + 1) := by rw [hl2]; exact nI_dec (rr.length + 1)
              have eb : nI (rr.length + 1) - 1 = nI rr.length := nI_pred rr.length
              have hl64 : rr.length + 2 ≤ 64 := h64
              have wb : m_i M' 254 (rr.length + 1) = b := by
                rw [hw (rr.length + 1) (by rw [hl2]; omega), hl2, show rr.length + 2 - 1 - (rr.length + 1) = 0 by omega]
                rfl
              have wa : m_i M' 254 rr.length = a := by
                rw [hw rr.length (by rw [hl2]; omega), hl2, show rr.length + 2 - 1 - rr.length = 1 by omega]
                rfl
              rw [ea, eb, nI_clamp (by omega), nI_clamp (by omega), wa, wb]
              refine ⟨rfl, vp_in_nI (by omega) (by omega), vp_in_nI (by omega) (by omega), CallVC.cps0 hd ?_⟩
              have hbb : stL s j < -15 → (a = 0 ∨ a = 1) ∧ (b = 0 ∨ b = 1) := fun z => by
                simp only [if_pos z] at ht
                exact ⟨hb.2.1 ht.1.1, hb.1 ht.1.2⟩
              refine ct_both M' (stL s j) a b q7 q8 t1 hbb ?_
              refine bRe_comes_149 M' 206 _ _ _ _ 254 _ _ ⟨by rw [hS'.s_stack], by rw [hS'.s_stack]; exact vp_in_nI (by omega) (by omega), ?_⟩
              refine bRe_comes_150 _ 206 _ _ _ _ ?_
              rw [nI_1, nI_clamp (by omega), ← hcl1]
              obtain ⟨j1, j2⟩ := joined_ty (a := a) (b := b) q7 q8 t1
              have hstk : ∀ k, k < (joinedS (stL s j) a b :: rr).length → m_i (m_si M' 254 rr.length (joinedS (stL s j) a b)) 254 k = (joinedS (stL s j) a b :: rr).getD ((joinedS (stL s j) a b :: rr).length - 1 - k) 0 := fun k hkk => by
                have hkk' : k < rr.length + 1 := hkk
                rw [m_i_si]
                by_cases z : k = rr.length
                · rw [if_pos ⟨rfl, z⟩, show (joinedS (stL s j) a b :: rr).length - 1 - k = 0 by show rr.length + 1 - 1 - k = 0; omega]
                  rfl
                · rw [if_neg (fun y => z y.2), hw k (by rw [hl2]; omega), hl2, show (joinedS (stL s j) a b :: rr).length - 1 - k = (rr.length - 1 - k) + 1 by show rr.length + 1 - 1 - k = _; omega, show rr.length + 2 - 1 - k = (rr.length - 1 - k) + 2 by omega]
                  rfl
              by_cases z : stL s j < -15
              · simp only [if_pos z] at ht
                exact ih (j + 1) (joinedS (stL s j) a b :: rr) (true :: tr) _ (by omega) (by show rr.length + 1 ≤ 64; omega) hk.2 ht.2 ⟨fun _ => j1 z (hbb z).1 (hbb z).2, hb.2.2⟩ hstk he (hF.tr (FrS.si (P := fun a _ => a = 254) rfl _))
              · simp only [if_neg z] at ht
                exact ih (j + 1) (joinedS (stL s j) a b :: rr) (decide (stL s j < -12) :: tr) _ (by omega) (by show rr.length + 1 ≤ 64; omega) hk.2 ht.2 ⟨fun y => j2 z (of_decide_eq_true y), hb.2.2⟩ hstk he (hF.tr (FrS.si (P := fun a _ => a = 254) rfl _))
          · have q8 := g2.mp e17
            rw [if_pos q7, if_pos q8] at hk he
            rw [if_pos q7, if_pos q8] at ht
            match st, ts, h64, hk, he, ht, hb, hw, scl, sin with
            | a :: rr, true :: tr, h64, hk, he, ht, hb, hw, scl, sin =>
              have hl2 : (a :: rr).length = rr.length + 1 := rfl
              have hl64 : rr.length + 1 ≤ 64 := h64
              have ea : nI (a :: rr).length - 1 = nI rr.length := nI_pred rr.length
              have wa : m_i M' 254 rr.length = a := by
                rw [hw rr.length (by rw [hl2]; omega), hl2, show rr.length + 1 - 1 - rr.length = 0 by omega]
                rfl
              rw [ea, nI_clamp (by omega), wa]
              refine ⟨rfl, vp_in_nI (by omega) (by omega), ?_⟩
              refine bRe_comes_150 _ 206 _ _ _ _ ?_
              rw [nI_1, ← hcl1]
              refine ih (j + 1) ((1 - a) :: rr) (true :: tr) _ (by omega) h64 hk.2 ht ⟨fun _ => b01_not (hb.1 rfl), hb.2⟩ (fun k hkk => ?_) he (hF.tr (FrS.si (P := fun a _ => a = 254) rfl _))
              have hkk' : k < rr.length + 1 := hkk
              rw [m_i_si]
              by_cases z : k = rr.length
              · rw [if_pos ⟨rfl, z⟩, show ((1 - a) :: rr).length - 1 - k = 0 by show rr.length + 1 - 1 - k = 0; omega]
                rfl
              · rw [if_neg (fun y => z y.2), hw k (by rw [hl2]; omega), hl2, show ((1 - a) :: rr).length - 1 - k = (rr.length - 1 - k) + 1 by show rr.length + 1 - 1 - k = _; omega, show rr.length + 1 - 1 - k = (rr.length - 1 - k) + 1 by omega]
                rfl
        · obtain ⟨n1, n2, n3, n4, n5⟩ := names_at hN' q0 q7
          rw [n1, n5]
          have ecd2 : ∀ (v : Int32), m_i (m_si M' 254 st.length v) (244 + r) (cpos s j) = -(stL s j) := fun v => by rw [m_i_si, if_neg (by omega), ecd, hCj, n1]
          refine ⟨fun q => absurd q n2, fun _ => ⟨fun _ => ⟨rfl, n4, rfl, sin, fun _ => hpush _ _ 0 rfl ?_ q7, fun q => absurd q (by rw [ecd2]; exact n3)⟩, fun q => absurd q n3⟩⟩
          rw [Int32.add_zero, nI_1, ← hcl1]
      · rw [if_neg q0] at hCj hcl1
        have q7 : ¬ stL s j < -7 := fun z => q0 (by
          rw [Int32.lt_iff_toInt_lt] at z ⊢
          have a1 : ((-7 : Int32)).toInt = -7 := rfl
          have a2 : ((0 : Int32)).toInt = 0 := rfl
          omega)
        have eop : opdS fg fo hour (stL s j) = stL s j := by unfold opdS; rw [if_neg q0]
        have ccl1 : (nI (cpos s j) + 1).toNatClampNeg = cpos s j + 1 := by rw [nI_1]; exact nI_clamp (by omega)
        rw [hCj.1, ccl1, hCj.2]
        have ecd2 : ∀ (v : Int32), m_i (m_si M' 254 st.length v) (244 + r) (cpos s j) = 0 := fun v => by rw [m_i_si, if_neg (by omega), ecd, hCj.1]
        refine ⟨fun q => absurd q (by decide), fun _ => ⟨fun q => absurd rfl q, fun _ => ⟨by rw [nI_1]; exact vp_in_nI (by omega) (by omega), rfl, sin, fun q => absurd (ecd2 _) q, fun _ => hpush _ _ 0 eop.symm ?_ q7⟩⟩⟩
        rw [nI_1, nI_1, hcl1]
  exact loop s.length 0 [] [] M (by omega) (by decide) hok hty trivial (fun k hk => absurd hk (Nat.not_lt_zero k)) rfl (FrS.rf _ _)
end SR1
